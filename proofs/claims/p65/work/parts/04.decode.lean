set_option maxRecDepth 20000 in
theorem ok_KT_init : kx_mok m_KT_init := ⟨by decide +kernel, kx_in (List.mem_of_getElem? (i := 77) (by decide +kernel)) rfl, kx_in (List.mem_of_getElem? (i := 53) (by decide +kernel)) rfl, by decide +kernel, by decide +kernel⟩
set_option maxRecDepth 20000 in
theorem ok_TreatyText_init : kx_mok m_TreatyText_init := ⟨by decide +kernel, kx_in (List.mem_of_getElem? (i := 89) (by decide +kernel)) rfl, kx_in (List.mem_of_getElem? (i := 54) (by decide +kernel)) rfl, by decide +kernel, by decide +kernel⟩
set_option maxRecDepth 20000 in
theorem ok_Reader_init : kx_mok m_Reader_init := ⟨by decide +kernel, kx_in (List.mem_of_getElem? (i := 95) (by decide +kernel)) rfl, kx_in (List.mem_of_getElem? (i := 55) (by decide +kernel)) rfl, by decide +kernel, by decide +kernel⟩
set_option maxRecDepth 20000 in
theorem ok_CenturyText_init : kx_mok m_CenturyText_init := ⟨by decide +kernel, kx_in (List.mem_of_getElem? (i := 212) (by decide +kernel)) rfl, kx_in (List.mem_of_getElem? (i := 60) (by decide +kernel)) rfl, by decide +kernel, by decide +kernel⟩
set_option maxRecDepth 20000 in
theorem ok_Seen_init : kx_mok m_Seen_init := ⟨by decide +kernel, kx_in (List.mem_of_getElem? (i := 231) (by decide +kernel)) rfl, kx_in (List.mem_of_getElem? (i := 61) (by decide +kernel)) rfl, by decide +kernel, by decide +kernel⟩
set_option maxRecDepth 20000 in
theorem ok_Joiner_init : kx_mok m_Joiner_init := ⟨by decide +kernel, kx_in (List.mem_of_getElem? (i := 258) (by decide +kernel)) rfl, kx_in (List.mem_of_getElem? (i := 62) (by decide +kernel)) rfl, by decide +kernel, by decide +kernel⟩
set_option maxRecDepth 20000 in
theorem ok_Life_init : kx_mok m_Life_init := ⟨by decide +kernel, kx_in (List.mem_of_getElem? (i := 288) (by decide +kernel)) rfl, kx_in (List.mem_of_getElem? (i := 63) (by decide +kernel)) rfl, by decide +kernel, by decide +kernel⟩
set_option maxRecDepth 20000 in
theorem ok_State_init : kx_mok m_State_init := ⟨by decide +kernel, kx_in (List.mem_of_getElem? (i := 318) (by decide +kernel)) rfl, kx_in (List.mem_of_getElem? (i := 64) (by decide +kernel)) rfl, by decide +kernel, by decide +kernel⟩
set_option maxRecDepth 20000 in
theorem ok_Deal_init : kx_mok m_Deal_init := ⟨by decide +kernel, kx_in (List.mem_of_getElem? (i := 324) (by decide +kernel)) rfl, kx_in (List.mem_of_getElem? (i := 65) (by decide +kernel)) rfl, by decide +kernel, by decide +kernel⟩
set_option maxRecDepth 20000 in
theorem ok_Cloth_init : kx_mok m_Cloth_init := ⟨by decide +kernel, kx_in (List.mem_of_getElem? (i := 378) (by decide +kernel)) rfl, kx_in (List.mem_of_getElem? (i := 66) (by decide +kernel)) rfl, by decide +kernel, by decide +kernel⟩
set_option maxRecDepth 20000 in
theorem ok_Script_init : kx_mok m_Script_init := ⟨by decide +kernel, kx_in (List.mem_of_getElem? (i := 426) (by decide +kernel)) rfl, kx_in (List.mem_of_getElem? (i := 67) (by decide +kernel)) rfl, by decide +kernel, by decide +kernel⟩
set_option maxRecDepth 20000 in
theorem ok_Tray_init : kx_mok m_Tray_init := ⟨by decide +kernel, kx_in (List.mem_of_getElem? (i := 474) (by decide +kernel)) rfl, kx_in (List.mem_of_getElem? (i := 68) (by decide +kernel)) rfl, by decide +kernel, by decide +kernel⟩
set_option maxRecDepth 20000 in
theorem ok_KT_tray : kx_mok m_KT_tray := ⟨by decide +kernel, kx_in (List.mem_of_getElem? (i := 552) (by decide +kernel)) rfl, kx_in (List.mem_of_getElem? (i := 53) (by decide +kernel)) rfl, by decide +kernel, by decide +kernel⟩
set_option maxRecDepth 20000 in
theorem ok_KT_noTray : kx_mok m_KT_noTray := ⟨by decide +kernel, kx_in (List.mem_of_getElem? (i := 555) (by decide +kernel)) rfl, kx_in (List.mem_of_getElem? (i := 53) (by decide +kernel)) rfl, by decide +kernel, by decide +kernel⟩
set_option maxRecDepth 20000 in
theorem ok_KT_refused : kx_mok m_KT_refused := ⟨by decide +kernel, kx_in (List.mem_of_getElem? (i := 559) (by decide +kernel)) rfl, kx_in (List.mem_of_getElem? (i := 53) (by decide +kernel)) rfl, by decide +kernel, by decide +kernel⟩
set_option maxRecDepth 20000 in
theorem ok_Tray_lay : kx_mok m_Tray_lay := ⟨by decide +kernel, kx_in (List.mem_of_getElem? (i := 563) (by decide +kernel)) rfl, kx_in (List.mem_of_getElem? (i := 68) (by decide +kernel)) rfl, by decide +kernel, by decide +kernel⟩
set_option maxRecDepth 20000 in
theorem ok_Arr_fill : kx_mok m_Arr_fill := ⟨by decide +kernel, kx_in (List.mem_of_getElem? (i := 566) (by decide +kernel)) rfl, kx_in (List.mem_of_getElem? (i := 69) (by decide +kernel)) rfl, by decide +kernel, by decide +kernel⟩
set_option maxRecDepth 20000 in
theorem ok_KT_write : kx_mok m_KT_write := ⟨by decide +kernel, kx_in (List.mem_of_getElem? (i := 570) (by decide +kernel)) rfl, kx_in (List.mem_of_getElem? (i := 53) (by decide +kernel)) rfl, by decide +kernel, by decide +kernel⟩
set_option maxRecDepth 20000 in
theorem ok_KT_placeStatus : kx_mok m_KT_placeStatus := ⟨by decide +kernel, kx_in (List.mem_of_getElem? (i := 574) (by decide +kernel)) rfl, kx_in (List.mem_of_getElem? (i := 53) (by decide +kernel)) rfl, by decide +kernel, by decide +kernel⟩
set_option maxRecDepth 20000 in
theorem ok_Tray_lacks : kx_mok m_Tray_lacks := ⟨by decide +kernel, kx_in (List.mem_of_getElem? (i := 578) (by decide +kernel)) rfl, kx_in (List.mem_of_getElem? (i := 68) (by decide +kernel)) rfl, by decide +kernel, by decide +kernel⟩
set_option maxRecDepth 20000 in
theorem ok_Tray_put : kx_mok m_Tray_put := ⟨by decide +kernel, kx_in (List.mem_of_getElem? (i := 582) (by decide +kernel)) rfl, kx_in (List.mem_of_getElem? (i := 68) (by decide +kernel)) rfl, by decide +kernel, by decide +kernel⟩
set_option maxRecDepth 20000 in
theorem ok_KT_read : kx_mok m_KT_read := ⟨by decide +kernel, kx_in (List.mem_of_getElem? (i := 586) (by decide +kernel)) rfl, kx_in (List.mem_of_getElem? (i := 53) (by decide +kernel)) rfl, by decide +kernel, by decide +kernel⟩
set_option maxRecDepth 20000 in
theorem ok_KT_many : kx_mok m_KT_many := ⟨by decide +kernel, kx_in (List.mem_of_getElem? (i := 591) (by decide +kernel)) rfl, kx_in (List.mem_of_getElem? (i := 53) (by decide +kernel)) rfl, by decide +kernel, by decide +kernel⟩
set_option maxRecDepth 20000 in
theorem ok_Cloth_sum : kx_mok m_Cloth_sum := ⟨by decide +kernel, kx_in (List.mem_of_getElem? (i := 595) (by decide +kernel)) rfl, kx_in (List.mem_of_getElem? (i := 66) (by decide +kernel)) rfl, by decide +kernel, by decide +kernel⟩
set_option maxRecDepth 20000 in
theorem ok_Cloth_at : kx_mok m_Cloth_at := ⟨by decide +kernel, kx_in (List.mem_of_getElem? (i := 598) (by decide +kernel)) rfl, kx_in (List.mem_of_getElem? (i := 66) (by decide +kernel)) rfl, by decide +kernel, by decide +kernel⟩
set_option maxRecDepth 20000 in
theorem ok_Cloth_wornInAll : kx_mok m_Cloth_wornInAll := ⟨by decide +kernel, kx_in (List.mem_of_getElem? (i := 602) (by decide +kernel)) rfl, kx_in (List.mem_of_getElem? (i := 66) (by decide +kernel)) rfl, by decide +kernel, by decide +kernel⟩
set_option maxRecDepth 20000 in
theorem ok_Cloth_saidSet : kx_mok m_Cloth_saidSet := ⟨by decide +kernel, kx_in (List.mem_of_getElem? (i := 606) (by decide +kernel)) rfl, kx_in (List.mem_of_getElem? (i := 66) (by decide +kernel)) rfl, by decide +kernel, by decide +kernel⟩
set_option maxRecDepth 20000 in
theorem ok_Cloth_saidSetIn : kx_mok m_Cloth_saidSetIn := ⟨by decide +kernel, kx_in (List.mem_of_getElem? (i := 610) (by decide +kernel)) rfl, kx_in (List.mem_of_getElem? (i := 66) (by decide +kernel)) rfl, by decide +kernel, by decide +kernel⟩
set_option maxRecDepth 20000 in
theorem ok_Cloth_timesIn : kx_mok m_Cloth_timesIn := ⟨by decide +kernel, kx_in (List.mem_of_getElem? (i := 614) (by decide +kernel)) rfl, kx_in (List.mem_of_getElem? (i := 66) (by decide +kernel)) rfl, by decide +kernel, by decide +kernel⟩
set_option maxRecDepth 20000 in
theorem ok_Cloth_saysAt : kx_mok m_Cloth_saysAt := ⟨by decide +kernel, kx_in (List.mem_of_getElem? (i := 618) (by decide +kernel)) rfl, kx_in (List.mem_of_getElem? (i := 66) (by decide +kernel)) rfl, by decide +kernel, by decide +kernel⟩
set_option maxRecDepth 20000 in
theorem ok_KT_stitch : kx_mok m_KT_stitch := ⟨by decide +kernel, kx_in (List.mem_of_getElem? (i := 622) (by decide +kernel)) rfl, kx_in (List.mem_of_getElem? (i := 53) (by decide +kernel)) rfl, by decide +kernel, by decide +kernel⟩
set_option maxRecDepth 20000 in
theorem ok_KT_noRow : kx_mok m_KT_noRow := ⟨by decide +kernel, kx_in (List.mem_of_getElem? (i := 626) (by decide +kernel)) rfl, kx_in (List.mem_of_getElem? (i := 53) (by decide +kernel)) rfl, by decide +kernel, by decide +kernel⟩
set_option maxRecDepth 20000 in
theorem ok_KT_noColumn : kx_mok m_KT_noColumn := ⟨by decide +kernel, kx_in (List.mem_of_getElem? (i := 630) (by decide +kernel)) rfl, kx_in (List.mem_of_getElem? (i := 53) (by decide +kernel)) rfl, by decide +kernel, by decide +kernel⟩
set_option maxRecDepth 20000 in
theorem ok_KT_queenOf : kx_mok m_KT_queenOf := ⟨by decide +kernel, kx_in (List.mem_of_getElem? (i := 635) (by decide +kernel)) rfl, kx_in (List.mem_of_getElem? (i := 53) (by decide +kernel)) rfl, by decide +kernel, by decide +kernel⟩
set_option maxRecDepth 20000 in
theorem ok_KT_wool : kx_mok m_KT_wool := ⟨by decide +kernel, kx_in (List.mem_of_getElem? (i := 639) (by decide +kernel)) rfl, kx_in (List.mem_of_getElem? (i := 53) (by decide +kernel)) rfl, by decide +kernel, by decide +kernel⟩
set_option maxRecDepth 20000 in
theorem ok_KT_noQueen : kx_mok m_KT_noQueen := ⟨by decide +kernel, kx_in (List.mem_of_getElem? (i := 643) (by decide +kernel)) rfl, kx_in (List.mem_of_getElem? (i := 53) (by decide +kernel)) rfl, by decide +kernel, by decide +kernel⟩
set_option maxRecDepth 20000 in
theorem ok_KT_length : kx_mok m_KT_length := ⟨by decide +kernel, kx_in (List.mem_of_getElem? (i := 647) (by decide +kernel)) rfl, kx_in (List.mem_of_getElem? (i := 53) (by decide +kernel)) rfl, by decide +kernel, by decide +kernel⟩
set_option maxRecDepth 20000 in
theorem ok_KT_noClause : kx_mok m_KT_noClause := ⟨by decide +kernel, kx_in (List.mem_of_getElem? (i := 651) (by decide +kernel)) rfl, kx_in (List.mem_of_getElem? (i := 53) (by decide +kernel)) rfl, by decide +kernel, by decide +kernel⟩
set_option maxRecDepth 20000 in
theorem ok_KT_kind : kx_mok m_KT_kind := ⟨by decide +kernel, kx_in (List.mem_of_getElem? (i := 655) (by decide +kernel)) rfl, kx_in (List.mem_of_getElem? (i := 53) (by decide +kernel)) rfl, by decide +kernel, by decide +kernel⟩
set_option maxRecDepth 20000 in
theorem ok_KT_clash : kx_mok m_KT_clash := ⟨by decide +kernel, kx_in (List.mem_of_getElem? (i := 659) (by decide +kernel)) rfl, kx_in (List.mem_of_getElem? (i := 53) (by decide +kernel)) rfl, by decide +kernel, by decide +kernel⟩
set_option maxRecDepth 20000 in
theorem ok_KT_coupleStatus : kx_mok m_KT_coupleStatus := ⟨by decide +kernel, kx_in (List.mem_of_getElem? (i := 663) (by decide +kernel)) rfl, kx_in (List.mem_of_getElem? (i := 53) (by decide +kernel)) rfl, by decide +kernel, by decide +kernel⟩
set_option maxRecDepth 20000 in
theorem ok_KT_year : kx_mok m_KT_year := ⟨by decide +kernel, kx_in (List.mem_of_getElem? (i := 667) (by decide +kernel)) rfl, kx_in (List.mem_of_getElem? (i := 53) (by decide +kernel)) rfl, by decide +kernel, by decide +kernel⟩
set_option maxRecDepth 20000 in
theorem ok_Cloth_passYears : kx_mok m_Cloth_passYears := ⟨by decide +kernel, kx_in (List.mem_of_getElem? (i := 671) (by decide +kernel)) rfl, kx_in (List.mem_of_getElem? (i := 66) (by decide +kernel)) rfl, by decide +kernel, by decide +kernel⟩
set_option maxRecDepth 20000 in
theorem ok_Cloth_anyLoose : kx_mok m_Cloth_anyLoose := ⟨by decide +kernel, kx_in (List.mem_of_getElem? (i := 675) (by decide +kernel)) rfl, kx_in (List.mem_of_getElem? (i := 66) (by decide +kernel)) rfl, by decide +kernel, by decide +kernel⟩
set_option maxRecDepth 20000 in
theorem ok_Cloth_loose : kx_mok m_Cloth_loose := ⟨by decide +kernel, kx_in (List.mem_of_getElem? (i := 679) (by decide +kernel)) rfl, kx_in (List.mem_of_getElem? (i := 66) (by decide +kernel)) rfl, by decide +kernel, by decide +kernel⟩
set_option maxRecDepth 20000 in
theorem ok_Cloth_passYear : kx_mok m_Cloth_passYear := ⟨by decide +kernel, kx_in (List.mem_of_getElem? (i := 683) (by decide +kernel)) rfl, kx_in (List.mem_of_getElem? (i := 66) (by decide +kernel)) rfl, by decide +kernel, by decide +kernel⟩
set_option maxRecDepth 20000 in
theorem ok_Cloth_wearRow : kx_mok m_Cloth_wearRow := ⟨by decide +kernel, kx_in (List.mem_of_getElem? (i := 687) (by decide +kernel)) rfl, kx_in (List.mem_of_getElem? (i := 66) (by decide +kernel)) rfl, by decide +kernel, by decide +kernel⟩
set_option maxRecDepth 20000 in
theorem ok_Cloth_gapAt : kx_mok m_Cloth_gapAt := ⟨by decide +kernel, kx_in (List.mem_of_getElem? (i := 691) (by decide +kernel)) rfl, kx_in (List.mem_of_getElem? (i := 66) (by decide +kernel)) rfl, by decide +kernel, by decide +kernel⟩
set_option maxRecDepth 20000 in
theorem ok_Cloth_openRow : kx_mok m_Cloth_openRow := ⟨by decide +kernel, kx_in (List.mem_of_getElem? (i := 698) (by decide +kernel)) rfl, kx_in (List.mem_of_getElem? (i := 66) (by decide +kernel)) rfl, by decide +kernel, by decide +kernel⟩
set_option maxRecDepth 20000 in
theorem ok_Cloth_withLadders : kx_mok m_Cloth_withLadders := ⟨by decide +kernel, kx_in (List.mem_of_getElem? (i := 702) (by decide +kernel)) rfl, kx_in (List.mem_of_getElem? (i := 66) (by decide +kernel)) rfl, by decide +kernel, by decide +kernel⟩
set_option maxRecDepth 20000 in
theorem ok_KT_pull : kx_mok m_KT_pull := ⟨by decide +kernel, kx_in (List.mem_of_getElem? (i := 706) (by decide +kernel)) rfl, kx_in (List.mem_of_getElem? (i := 53) (by decide +kernel)) rfl, by decide +kernel, by decide +kernel⟩
set_option maxRecDepth 20000 in
theorem ok_KT_pullStatus : kx_mok m_KT_pullStatus := ⟨by decide +kernel, kx_in (List.mem_of_getElem? (i := 710) (by decide +kernel)) rfl, kx_in (List.mem_of_getElem? (i := 53) (by decide +kernel)) rfl, by decide +kernel, by decide +kernel⟩
set_option maxRecDepth 20000 in
theorem ok_Cloth_pullThread : kx_mok m_Cloth_pullThread := ⟨by decide +kernel, kx_in (List.mem_of_getElem? (i := 714) (by decide +kernel)) rfl, kx_in (List.mem_of_getElem? (i := 66) (by decide +kernel)) rfl, by decide +kernel, by decide +kernel⟩
set_option maxRecDepth 20000 in
theorem ok_KT_moth : kx_mok m_KT_moth := ⟨by decide +kernel, kx_in (List.mem_of_getElem? (i := 718) (by decide +kernel)) rfl, kx_in (List.mem_of_getElem? (i := 53) (by decide +kernel)) rfl, by decide +kernel, by decide +kernel⟩
set_option maxRecDepth 20000 in
theorem ok_Cloth_eat : kx_mok m_Cloth_eat := ⟨by decide +kernel, kx_in (List.mem_of_getElem? (i := 723) (by decide +kernel)) rfl, kx_in (List.mem_of_getElem? (i := 66) (by decide +kernel)) rfl, by decide +kernel, by decide +kernel⟩
set_option maxRecDepth 20000 in
theorem ok_KT_darn : kx_mok m_KT_darn := ⟨by decide +kernel, kx_in (List.mem_of_getElem? (i := 727) (by decide +kernel)) rfl, kx_in (List.mem_of_getElem? (i := 53) (by decide +kernel)) rfl, by decide +kernel, by decide +kernel⟩
set_option maxRecDepth 20000 in
theorem ok_Cloth_patch : kx_mok m_Cloth_patch := ⟨by decide +kernel, kx_in (List.mem_of_getElem? (i := 731) (by decide +kernel)) rfl, kx_in (List.mem_of_getElem? (i := 66) (by decide +kernel)) rfl, by decide +kernel, by decide +kernel⟩
set_option maxRecDepth 20000 in
theorem ok_KT_knit : kx_mok m_KT_knit := ⟨by decide +kernel, kx_in (List.mem_of_getElem? (i := 735) (by decide +kernel)) rfl, kx_in (List.mem_of_getElem? (i := 53) (by decide +kernel)) rfl, by decide +kernel, by decide +kernel⟩
set_option maxRecDepth 20000 in
theorem ok_KT_knitStatus : kx_mok m_KT_knitStatus := ⟨by decide +kernel, kx_in (List.mem_of_getElem? (i := 739) (by decide +kernel)) rfl, kx_in (List.mem_of_getElem? (i := 53) (by decide +kernel)) rfl, by decide +kernel, by decide +kernel⟩
set_option maxRecDepth 20000 in
theorem ok_KT_kindsStatus : kx_mok m_KT_kindsStatus := ⟨by decide +kernel, kx_in (List.mem_of_getElem? (i := 743) (by decide +kernel)) rfl, kx_in (List.mem_of_getElem? (i := 53) (by decide +kernel)) rfl, by decide +kernel, by decide +kernel⟩
set_option maxRecDepth 20000 in
theorem ok_KT_runStatus : kx_mok m_KT_runStatus := ⟨by decide +kernel, kx_in (List.mem_of_getElem? (i := 747) (by decide +kernel)) rfl, kx_in (List.mem_of_getElem? (i := 53) (by decide +kernel)) rfl, by decide +kernel, by decide +kernel⟩
set_option maxRecDepth 20000 in
theorem ok_Tray_within : kx_mok m_Tray_within := ⟨by decide +kernel, kx_in (List.mem_of_getElem? (i := 752) (by decide +kernel)) rfl, kx_in (List.mem_of_getElem? (i := 68) (by decide +kernel)) rfl, by decide +kernel, by decide +kernel⟩
set_option maxRecDepth 20000 in
theorem ok_Tray_woolOf : kx_mok m_Tray_woolOf := ⟨by decide +kernel, kx_in (List.mem_of_getElem? (i := 756) (by decide +kernel)) rfl, kx_in (List.mem_of_getElem? (i := 68) (by decide +kernel)) rfl, by decide +kernel, by decide +kernel⟩
set_option maxRecDepth 20000 in
theorem ok_Cloth_lay : kx_mok m_Cloth_lay := ⟨by decide +kernel, kx_in (List.mem_of_getElem? (i := 762) (by decide +kernel)) rfl, kx_in (List.mem_of_getElem? (i := 66) (by decide +kernel)) rfl, by decide +kernel, by decide +kernel⟩
set_option maxRecDepth 20000 in
theorem ok_Cloth_closeRow : kx_mok m_Cloth_closeRow := ⟨by decide +kernel, kx_in (List.mem_of_getElem? (i := 766) (by decide +kernel)) rfl, kx_in (List.mem_of_getElem? (i := 66) (by decide +kernel)) rfl, by decide +kernel, by decide +kernel⟩
set_option maxRecDepth 20000 in
theorem ok_KT_unravel : kx_mok m_KT_unravel := ⟨by decide +kernel, kx_in (List.mem_of_getElem? (i := 770) (by decide +kernel)) rfl, kx_in (List.mem_of_getElem? (i := 53) (by decide +kernel)) rfl, by decide +kernel, by decide +kernel⟩
set_option maxRecDepth 20000 in
theorem ok_Cloth_woolIn : kx_mok m_Cloth_woolIn := ⟨by decide +kernel, kx_in (List.mem_of_getElem? (i := 774) (by decide +kernel)) rfl, kx_in (List.mem_of_getElem? (i := 66) (by decide +kernel)) rfl, by decide +kernel, by decide +kernel⟩
set_option maxRecDepth 20000 in
theorem ok_Deal_giveWool : kx_mok m_Deal_giveWool := ⟨by decide +kernel, kx_in (List.mem_of_getElem? (i := 779) (by decide +kernel)) rfl, kx_in (List.mem_of_getElem? (i := 65) (by decide +kernel)) rfl, by decide +kernel, by decide +kernel⟩
set_option maxRecDepth 20000 in
theorem ok_KT_shear : kx_mok m_KT_shear := ⟨by decide +kernel, kx_in (List.mem_of_getElem? (i := 784) (by decide +kernel)) rfl, kx_in (List.mem_of_getElem? (i := 53) (by decide +kernel)) rfl, by decide +kernel, by decide +kernel⟩
set_option maxRecDepth 20000 in
theorem ok_KT_saidIn : kx_mok m_KT_saidIn := ⟨by decide +kernel, kx_in (List.mem_of_getElem? (i := 788) (by decide +kernel)) rfl, kx_in (List.mem_of_getElem? (i := 53) (by decide +kernel)) rfl, by decide +kernel, by decide +kernel⟩
set_option maxRecDepth 20000 in
theorem ok_KT_said : kx_mok m_KT_said := ⟨by decide +kernel, kx_in (List.mem_of_getElem? (i := 793) (by decide +kernel)) rfl, kx_in (List.mem_of_getElem? (i := 53) (by decide +kernel)) rfl, by decide +kernel, by decide +kernel⟩
set_option maxRecDepth 20000 in
theorem ok_KT_needs : kx_mok m_KT_needs := ⟨by decide +kernel, kx_in (List.mem_of_getElem? (i := 797) (by decide +kernel)) rfl, kx_in (List.mem_of_getElem? (i := 53) (by decide +kernel)) rfl, by decide +kernel, by decide +kernel⟩
set_option maxRecDepth 20000 in
theorem ok_KT_lost : kx_mok m_KT_lost := ⟨by decide +kernel, kx_in (List.mem_of_getElem? (i := 801) (by decide +kernel)) rfl, kx_in (List.mem_of_getElem? (i := 53) (by decide +kernel)) rfl, by decide +kernel, by decide +kernel⟩
set_option maxRecDepth 20000 in
theorem ok_KT_tried : kx_mok m_KT_tried := ⟨by decide +kernel, kx_in (List.mem_of_getElem? (i := 805) (by decide +kernel)) rfl, kx_in (List.mem_of_getElem? (i := 53) (by decide +kernel)) rfl, by decide +kernel, by decide +kernel⟩
set_option maxRecDepth 20000 in
theorem ok_Cloth_copyFrom : kx_mok m_Cloth_copyFrom := ⟨by decide +kernel, kx_in (List.mem_of_getElem? (i := 809) (by decide +kernel)) rfl, kx_in (List.mem_of_getElem? (i := 66) (by decide +kernel)) rfl, by decide +kernel, by decide +kernel⟩
set_option maxRecDepth 20000 in
theorem ok_Cloth_saysAnywhere : kx_mok m_Cloth_saysAnywhere := ⟨by decide +kernel, kx_in (List.mem_of_getElem? (i := 816) (by decide +kernel)) rfl, kx_in (List.mem_of_getElem? (i := 66) (by decide +kernel)) rfl, by decide +kernel, by decide +kernel⟩
set_option maxRecDepth 20000 in
theorem ok_KT_undoneIn : kx_mok m_KT_undoneIn := ⟨by decide +kernel, kx_in (List.mem_of_getElem? (i := 822) (by decide +kernel)) rfl, kx_in (List.mem_of_getElem? (i := 53) (by decide +kernel)) rfl, by decide +kernel, by decide +kernel⟩
set_option maxRecDepth 20000 in
theorem ok_KT_pulled : kx_mok m_KT_pulled := ⟨by decide +kernel, kx_in (List.mem_of_getElem? (i := 826) (by decide +kernel)) rfl, kx_in (List.mem_of_getElem? (i := 53) (by decide +kernel)) rfl, by decide +kernel, by decide +kernel⟩
set_option maxRecDepth 20000 in
theorem ok_KT_worstPull : kx_mok m_KT_worstPull := ⟨by decide +kernel, kx_in (List.mem_of_getElem? (i := 830) (by decide +kernel)) rfl, kx_in (List.mem_of_getElem? (i := 53) (by decide +kernel)) rfl, by decide +kernel, by decide +kernel⟩
set_option maxRecDepth 20000 in
theorem ok_KT_pulledOut : kx_mok m_KT_pulledOut := ⟨by decide +kernel, kx_in (List.mem_of_getElem? (i := 834) (by decide +kernel)) rfl, kx_in (List.mem_of_getElem? (i := 53) (by decide +kernel)) rfl, by decide +kernel, by decide +kernel⟩
set_option maxRecDepth 20000 in
theorem ok_KT_mend : kx_mok m_KT_mend := ⟨by decide +kernel, kx_in (List.mem_of_getElem? (i := 838) (by decide +kernel)) rfl, kx_in (List.mem_of_getElem? (i := 53) (by decide +kernel)) rfl, by decide +kernel, by decide +kernel⟩
set_option maxRecDepth 20000 in
theorem ok_KT_mendingSet : kx_mok m_KT_mendingSet := ⟨by decide +kernel, kx_in (List.mem_of_getElem? (i := 842) (by decide +kernel)) rfl, kx_in (List.mem_of_getElem? (i := 53) (by decide +kernel)) rfl, by decide +kernel, by decide +kernel⟩
set_option maxRecDepth 20000 in
theorem ok_Int_bitCount : kx_mok m_Int_bitCount := ⟨by decide +kernel, kx_in (List.mem_of_getElem? (i := 845) (by decide +kernel)) rfl, kx_in (List.mem_of_getElem? (i := 72) (by decide +kernel)) rfl, by decide +kernel, by decide +kernel⟩
set_option maxRecDepth 20000 in
theorem ok_KT_staysBy : kx_mok m_KT_staysBy := ⟨by decide +kernel, kx_in (List.mem_of_getElem? (i := 852) (by decide +kernel)) rfl, kx_in (List.mem_of_getElem? (i := 53) (by decide +kernel)) rfl, by decide +kernel, by decide +kernel⟩
set_option maxRecDepth 20000 in
theorem ok_KT_inSet : kx_mok m_KT_inSet := ⟨by decide +kernel, kx_in (List.mem_of_getElem? (i := 855) (by decide +kernel)) rfl, kx_in (List.mem_of_getElem? (i := 53) (by decide +kernel)) rfl, by decide +kernel, by decide +kernel⟩
set_option maxRecDepth 20000 in
theorem ok_KT_mendSet : kx_mok m_KT_mendSet := ⟨by decide +kernel, kx_in (List.mem_of_getElem? (i := 859) (by decide +kernel)) rfl, kx_in (List.mem_of_getElem? (i := 53) (by decide +kernel)) rfl, by decide +kernel, by decide +kernel⟩
set_option maxRecDepth 20000 in
theorem ok_KT_shortest : kx_mok m_KT_shortest := ⟨by decide +kernel, kx_in (List.mem_of_getElem? (i := 863) (by decide +kernel)) rfl, kx_in (List.mem_of_getElem? (i := 53) (by decide +kernel)) rfl, by decide +kernel, by decide +kernel⟩
set_option maxRecDepth 20000 in
theorem ok_KT_noSet : kx_mok m_KT_noSet := ⟨by decide +kernel, kx_in (List.mem_of_getElem? (i := 867) (by decide +kernel)) rfl, kx_in (List.mem_of_getElem? (i := 53) (by decide +kernel)) rfl, by decide +kernel, by decide +kernel⟩
set_option maxRecDepth 20000 in
theorem ok_Joiner_join : kx_mok m_Joiner_join := ⟨by decide +kernel, kx_in (List.mem_of_getElem? (i := 871) (by decide +kernel)) rfl, kx_in (List.mem_of_getElem? (i := 62) (by decide +kernel)) rfl, by decide +kernel, by decide +kernel⟩
set_option maxRecDepth 20000 in
theorem ok_Joiner_gather : kx_mok m_Joiner_gather := ⟨by decide +kernel, kx_in (List.mem_of_getElem? (i := 875) (by decide +kernel)) rfl, kx_in (List.mem_of_getElem? (i := 62) (by decide +kernel)) rfl, by decide +kernel, by decide +kernel⟩
set_option maxRecDepth 20000 in
theorem ok_Joiner_standsInOther : kx_mok m_Joiner_standsInOther := ⟨by decide +kernel, kx_in (List.mem_of_getElem? (i := 879) (by decide +kernel)) rfl, kx_in (List.mem_of_getElem? (i := 62) (by decide +kernel)) rfl, by decide +kernel, by decide +kernel⟩
set_option maxRecDepth 20000 in
theorem ok_Deal_runOf : kx_mok m_Deal_runOf := ⟨by decide +kernel, kx_in (List.mem_of_getElem? (i := 883) (by decide +kernel)) rfl, kx_in (List.mem_of_getElem? (i := 65) (by decide +kernel)) rfl, by decide +kernel, by decide +kernel⟩
set_option maxRecDepth 20000 in
theorem ok_Joiner_lowest : kx_mok m_Joiner_lowest := ⟨by decide +kernel, kx_in (List.mem_of_getElem? (i := 886) (by decide +kernel)) rfl, kx_in (List.mem_of_getElem? (i := 62) (by decide +kernel)) rfl, by decide +kernel, by decide +kernel⟩
set_option maxRecDepth 20000 in
theorem ok_Arr_fill_2 : kx_mok m_Arr_fill_2 := ⟨by decide +kernel, kx_in (List.mem_of_getElem? (i := 889) (by decide +kernel)) rfl, kx_in (List.mem_of_getElem? (i := 69) (by decide +kernel)) rfl, by decide +kernel, by decide +kernel⟩
set_option maxRecDepth 20000 in
theorem ok_Joiner_offer : kx_mok m_Joiner_offer := ⟨by decide +kernel, kx_in (List.mem_of_getElem? (i := 893) (by decide +kernel)) rfl, kx_in (List.mem_of_getElem? (i := 62) (by decide +kernel)) rfl, by decide +kernel, by decide +kernel⟩
set_option maxRecDepth 20000 in
theorem ok_Joiner_extend : kx_mok m_Joiner_extend := ⟨by decide +kernel, kx_in (List.mem_of_getElem? (i := 897) (by decide +kernel)) rfl, kx_in (List.mem_of_getElem? (i := 62) (by decide +kernel)) rfl, by decide +kernel, by decide +kernel⟩
set_option maxRecDepth 20000 in
theorem ok_Joiner_overlap : kx_mok m_Joiner_overlap := ⟨by decide +kernel, kx_in (List.mem_of_getElem? (i := 901) (by decide +kernel)) rfl, kx_in (List.mem_of_getElem? (i := 62) (by decide +kernel)) rfl, by decide +kernel, by decide +kernel⟩
set_option maxRecDepth 20000 in
theorem ok_Joiner_choose : kx_mok m_Joiner_choose := ⟨by decide +kernel, kx_in (List.mem_of_getElem? (i := 906) (by decide +kernel)) rfl, kx_in (List.mem_of_getElem? (i := 62) (by decide +kernel)) rfl, by decide +kernel, by decide +kernel⟩
set_option maxRecDepth 20000 in
theorem ok_KT_shortestAt : kx_mok m_KT_shortestAt := ⟨by decide +kernel, kx_in (List.mem_of_getElem? (i := 910) (by decide +kernel)) rfl, kx_in (List.mem_of_getElem? (i := 53) (by decide +kernel)) rfl, by decide +kernel, by decide +kernel⟩
set_option maxRecDepth 20000 in
theorem ok_KT_wins : kx_mok m_KT_wins := ⟨by decide +kernel, kx_in (List.mem_of_getElem? (i := 914) (by decide +kernel)) rfl, kx_in (List.mem_of_getElem? (i := 53) (by decide +kernel)) rfl, by decide +kernel, by decide +kernel⟩
set_option maxRecDepth 20000 in
theorem ok_Deal_winOf : kx_mok m_Deal_winOf := ⟨by decide +kernel, kx_in (List.mem_of_getElem? (i := 918) (by decide +kernel)) rfl, kx_in (List.mem_of_getElem? (i := 65) (by decide +kernel)) rfl, by decide +kernel, by decide +kernel⟩
set_option maxRecDepth 20000 in
theorem ok_Deal_winOfOne : kx_mok m_Deal_winOfOne := ⟨by decide +kernel, kx_in (List.mem_of_getElem? (i := 923) (by decide +kernel)) rfl, kx_in (List.mem_of_getElem? (i := 65) (by decide +kernel)) rfl, by decide +kernel, by decide +kernel⟩
set_option maxRecDepth 20000 in
theorem ok_Deal_worthAt : kx_mok m_Deal_worthAt := ⟨by decide +kernel, kx_in (List.mem_of_getElem? (i := 926) (by decide +kernel)) rfl, kx_in (List.mem_of_getElem? (i := 65) (by decide +kernel)) rfl, by decide +kernel, by decide +kernel⟩
set_option maxRecDepth 20000 in
theorem ok_KT_bargain : kx_mok m_KT_bargain := ⟨by decide +kernel, kx_in (List.mem_of_getElem? (i := 930) (by decide +kernel)) rfl, kx_in (List.mem_of_getElem? (i := 53) (by decide +kernel)) rfl, by decide +kernel, by decide +kernel⟩
set_option maxRecDepth 20000 in
theorem ok_Deal_bestSet : kx_mok m_Deal_bestSet := ⟨by decide +kernel, kx_in (List.mem_of_getElem? (i := 934) (by decide +kernel)) rfl, kx_in (List.mem_of_getElem? (i := 65) (by decide +kernel)) rfl, by decide +kernel, by decide +kernel⟩
set_option maxRecDepth 20000 in
theorem ok_Deal_winOfAll : kx_mok m_Deal_winOfAll := ⟨by decide +kernel, kx_in (List.mem_of_getElem? (i := 938) (by decide +kernel)) rfl, kx_in (List.mem_of_getElem? (i := 65) (by decide +kernel)) rfl, by decide +kernel, by decide +kernel⟩
set_option maxRecDepth 20000 in
theorem ok_Deal_signable : kx_mok m_Deal_signable := ⟨by decide +kernel, kx_in (List.mem_of_getElem? (i := 943) (by decide +kernel)) rfl, kx_in (List.mem_of_getElem? (i := 65) (by decide +kernel)) rfl, by decide +kernel, by decide +kernel⟩
set_option maxRecDepth 20000 in
theorem ok_Deal_atOdds : kx_mok m_Deal_atOdds := ⟨by decide +kernel, kx_in (List.mem_of_getElem? (i := 947) (by decide +kernel)) rfl, kx_in (List.mem_of_getElem? (i := 65) (by decide +kernel)) rfl, by decide +kernel, by decide +kernel⟩
set_option maxRecDepth 20000 in
theorem ok_KT_bargainWorth : kx_mok m_KT_bargainWorth := ⟨by decide +kernel, kx_in (List.mem_of_getElem? (i := 951) (by decide +kernel)) rfl, kx_in (List.mem_of_getElem? (i := 53) (by decide +kernel)) rfl, by decide +kernel, by decide +kernel⟩
set_option maxRecDepth 20000 in
theorem ok_KT_stable : kx_mok m_KT_stable := ⟨by decide +kernel, kx_in (List.mem_of_getElem? (i := 956) (by decide +kernel)) rfl, kx_in (List.mem_of_getElem? (i := 53) (by decide +kernel)) rfl, by decide +kernel, by decide +kernel⟩
set_option maxRecDepth 20000 in
theorem ok_Deal_holdsFast : kx_mok m_Deal_holdsFast := ⟨by decide +kernel, kx_in (List.mem_of_getElem? (i := 960) (by decide +kernel)) rfl, kx_in (List.mem_of_getElem? (i := 65) (by decide +kernel)) rfl, by decide +kernel, by decide +kernel⟩
set_option maxRecDepth 20000 in
theorem ok_KT_stables : kx_mok m_KT_stables := ⟨by decide +kernel, kx_in (List.mem_of_getElem? (i := 964) (by decide +kernel)) rfl, kx_in (List.mem_of_getElem? (i := 53) (by decide +kernel)) rfl, by decide +kernel, by decide +kernel⟩
set_option maxRecDepth 20000 in
theorem ok_KT_fills : kx_mok m_KT_fills := ⟨by decide +kernel, kx_in (List.mem_of_getElem? (i := 968) (by decide +kernel)) rfl, kx_in (List.mem_of_getElem? (i := 53) (by decide +kernel)) rfl, by decide +kernel, by decide +kernel⟩
set_option maxRecDepth 20000 in
theorem ok_KT_seenStatus : kx_mok m_KT_seenStatus := ⟨by decide +kernel, kx_in (List.mem_of_getElem? (i := 972) (by decide +kernel)) rfl, kx_in (List.mem_of_getElem? (i := 53) (by decide +kernel)) rfl, by decide +kernel, by decide +kernel⟩
set_option maxRecDepth 20000 in
theorem ok_KT_lookAt : kx_mok m_KT_lookAt := ⟨by decide +kernel, kx_in (List.mem_of_getElem? (i := 976) (by decide +kernel)) rfl, kx_in (List.mem_of_getElem? (i := 53) (by decide +kernel)) rfl, by decide +kernel, by decide +kernel⟩
set_option maxRecDepth 20000 in
theorem ok_Seen_learn : kx_mok m_Seen_learn := ⟨by decide +kernel, kx_in (List.mem_of_getElem? (i := 980) (by decide +kernel)) rfl, kx_in (List.mem_of_getElem? (i := 61) (by decide +kernel)) rfl, by decide +kernel, by decide +kernel⟩
set_option maxRecDepth 20000 in
theorem ok_Seen_firstOf : kx_mok m_Seen_firstOf := ⟨by decide +kernel, kx_in (List.mem_of_getElem? (i := 985) (by decide +kernel)) rfl, kx_in (List.mem_of_getElem? (i := 61) (by decide +kernel)) rfl, by decide +kernel, by decide +kernel⟩
set_option maxRecDepth 20000 in
theorem ok_Seen_lowest : kx_mok m_Seen_lowest := ⟨by decide +kernel, kx_in (List.mem_of_getElem? (i := 988) (by decide +kernel)) rfl, kx_in (List.mem_of_getElem? (i := 61) (by decide +kernel)) rfl, by decide +kernel, by decide +kernel⟩
set_option maxRecDepth 20000 in
theorem ok_Seen_count : kx_mok m_Seen_count := ⟨by decide +kernel, kx_in (List.mem_of_getElem? (i := 992) (by decide +kernel)) rfl, kx_in (List.mem_of_getElem? (i := 61) (by decide +kernel)) rfl, by decide +kernel, by decide +kernel⟩
set_option maxRecDepth 20000 in
theorem ok_Seen_passColumn : kx_mok m_Seen_passColumn := ⟨by decide +kernel, kx_in (List.mem_of_getElem? (i := 997) (by decide +kernel)) rfl, kx_in (List.mem_of_getElem? (i := 61) (by decide +kernel)) rfl, by decide +kernel, by decide +kernel⟩
set_option maxRecDepth 20000 in
theorem ok_KT_look : kx_mok m_KT_look := ⟨by decide +kernel, kx_in (List.mem_of_getElem? (i := 1001) (by decide +kernel)) rfl, kx_in (List.mem_of_getElem? (i := 53) (by decide +kernel)) rfl, by decide +kernel, by decide +kernel⟩
set_option maxRecDepth 20000 in
theorem ok_Seen_bestColumn : kx_mok m_Seen_bestColumn := ⟨by decide +kernel, kx_in (List.mem_of_getElem? (i := 1005) (by decide +kernel)) rfl, kx_in (List.mem_of_getElem? (i := 61) (by decide +kernel)) rfl, by decide +kernel, by decide +kernel⟩
set_option maxRecDepth 20000 in
theorem ok_Seen_countWith : kx_mok m_Seen_countWith := ⟨by decide +kernel, kx_in (List.mem_of_getElem? (i := 1010) (by decide +kernel)) rfl, kx_in (List.mem_of_getElem? (i := 61) (by decide +kernel)) rfl, by decide +kernel, by decide +kernel⟩
set_option maxRecDepth 20000 in
theorem ok_KT_sure : kx_mok m_KT_sure := ⟨by decide +kernel, kx_in (List.mem_of_getElem? (i := 1018) (by decide +kernel)) rfl, kx_in (List.mem_of_getElem? (i := 53) (by decide +kernel)) rfl, by decide +kernel, by decide +kernel⟩
set_option maxRecDepth 20000 in
theorem ok_Seen_onlyKind : kx_mok m_Seen_onlyKind := ⟨by decide +kernel, kx_in (List.mem_of_getElem? (i := 1022) (by decide +kernel)) rfl, kx_in (List.mem_of_getElem? (i := 61) (by decide +kernel)) rfl, by decide +kernel, by decide +kernel⟩
set_option maxRecDepth 20000 in
theorem ok_KT_mark : kx_mok m_KT_mark := ⟨by decide +kernel, kx_in (List.mem_of_getElem? (i := 1026) (by decide +kernel)) rfl, kx_in (List.mem_of_getElem? (i := 53) (by decide +kernel)) rfl, by decide +kernel, by decide +kernel⟩
set_option maxRecDepth 20000 in
theorem ok_State_copyFrom : kx_mok m_State_copyFrom := ⟨by decide +kernel, kx_in (List.mem_of_getElem? (i := 1030) (by decide +kernel)) rfl, kx_in (List.mem_of_getElem? (i := 64) (by decide +kernel)) rfl, by decide +kernel, by decide +kernel⟩
set_option maxRecDepth 20000 in
theorem ok_Deal_copyFrom : kx_mok m_Deal_copyFrom := ⟨by decide +kernel, kx_in (List.mem_of_getElem? (i := 1034) (by decide +kernel)) rfl, kx_in (List.mem_of_getElem? (i := 65) (by decide +kernel)) rfl, by decide +kernel, by decide +kernel⟩
set_option maxRecDepth 20000 in
theorem ok_Script_copyFrom : kx_mok m_Script_copyFrom := ⟨by decide +kernel, kx_in (List.mem_of_getElem? (i := 1040) (by decide +kernel)) rfl, kx_in (List.mem_of_getElem? (i := 67) (by decide +kernel)) rfl, by decide +kernel, by decide +kernel⟩
set_option maxRecDepth 20000 in
theorem ok_KT_back : kx_mok m_KT_back := ⟨by decide +kernel, kx_in (List.mem_of_getElem? (i := 1045) (by decide +kernel)) rfl, kx_in (List.mem_of_getElem? (i := 53) (by decide +kernel)) rfl, by decide +kernel, by decide +kernel⟩
set_option maxRecDepth 20000 in
theorem ok_LW_lay : kx_mok m_LW_lay := ⟨by decide +kernel, kx_in (List.mem_of_getElem? (i := 1048) (by decide +kernel)) rfl, kx_in (List.mem_of_getElem? (i := 52) (by decide +kernel)) rfl, by decide +kernel, by decide +kernel⟩
set_option maxRecDepth 20000 in
theorem ok_LW_say : kx_mok m_LW_say := ⟨by decide +kernel, kx_in (List.mem_of_getElem? (i := 1052) (by decide +kernel)) rfl, kx_in (List.mem_of_getElem? (i := 52) (by decide +kernel)) rfl, by decide +kernel, by decide +kernel⟩
set_option maxRecDepth 20000 in
theorem ok_LW_put : kx_mok m_LW_put := ⟨by decide +kernel, kx_in (List.mem_of_getElem? (i := 1057) (by decide +kernel)) rfl, kx_in (List.mem_of_getElem? (i := 52) (by decide +kernel)) rfl, by decide +kernel, by decide +kernel⟩
set_option maxRecDepth 20000 in
theorem ok_LW_feed : kx_mok m_LW_feed := ⟨by decide +kernel, kx_in (List.mem_of_getElem? (i := 1060) (by decide +kernel)) rfl, kx_in (List.mem_of_getElem? (i := 52) (by decide +kernel)) rfl, by decide +kernel, by decide +kernel⟩
set_option maxRecDepth 20000 in
theorem ok_LW_four : kx_mok m_LW_four := ⟨by decide +kernel, kx_in (List.mem_of_getElem? (i := 1063) (by decide +kernel)) rfl, kx_in (List.mem_of_getElem? (i := 52) (by decide +kernel)) rfl, by decide +kernel, by decide +kernel⟩
set_option maxRecDepth 20000 in
theorem ok_KT_feed : kx_mok m_KT_feed := ⟨by decide +kernel, kx_in (List.mem_of_getElem? (i := 1067) (by decide +kernel)) rfl, kx_in (List.mem_of_getElem? (i := 53) (by decide +kernel)) rfl, by decide +kernel, by decide +kernel⟩
set_option maxRecDepth 20000 in
theorem ok_KT_feedInt : kx_mok m_KT_feedInt := ⟨by decide +kernel, kx_in (List.mem_of_getElem? (i := 1071) (by decide +kernel)) rfl, kx_in (List.mem_of_getElem? (i := 53) (by decide +kernel)) rfl, by decide +kernel, by decide +kernel⟩
set_option maxRecDepth 20000 in
theorem ok_LW_number : kx_mok m_LW_number := ⟨by decide +kernel, kx_in (List.mem_of_getElem? (i := 1074) (by decide +kernel)) rfl, kx_in (List.mem_of_getElem? (i := 52) (by decide +kernel)) rfl, by decide +kernel, by decide +kernel⟩
set_option maxRecDepth 20000 in
theorem ok_LW_name : kx_mok m_LW_name := ⟨by decide +kernel, kx_in (List.mem_of_getElem? (i := 1080) (by decide +kernel)) rfl, kx_in (List.mem_of_getElem? (i := 52) (by decide +kernel)) rfl, by decide +kernel, by decide +kernel⟩
set_option maxRecDepth 20000 in
theorem ok_LW_kind : kx_mok m_LW_kind := ⟨by decide +kernel, kx_in (List.mem_of_getElem? (i := 1086) (by decide +kernel)) rfl, kx_in (List.mem_of_getElem? (i := 52) (by decide +kernel)) rfl, by decide +kernel, by decide +kernel⟩
set_option maxRecDepth 20000 in
theorem ok_LW_load : kx_mok m_LW_load := ⟨by decide +kernel, kx_in (List.mem_of_getElem? (i := 1097) (by decide +kernel)) rfl, kx_in (List.mem_of_getElem? (i := 52) (by decide +kernel)) rfl, by decide +kernel, by decide +kernel⟩
set_option maxRecDepth 20000 in
theorem ok_KT_treaty : kx_mok m_KT_treaty := ⟨by decide +kernel, kx_in (List.mem_of_getElem? (i := 1101) (by decide +kernel)) rfl, kx_in (List.mem_of_getElem? (i := 53) (by decide +kernel)) rfl, by decide +kernel, by decide +kernel⟩
set_option maxRecDepth 20000 in
theorem ok_TreatyText_parse : kx_mok m_TreatyText_parse := ⟨by decide +kernel, kx_in (List.mem_of_getElem? (i := 1105) (by decide +kernel)) rfl, kx_in (List.mem_of_getElem? (i := 54) (by decide +kernel)) rfl, by decide +kernel, by decide +kernel⟩
set_option maxRecDepth 20000 in
theorem ok_State_clear : kx_mok m_State_clear := ⟨by decide +kernel, kx_in (List.mem_of_getElem? (i := 1109) (by decide +kernel)) rfl, kx_in (List.mem_of_getElem? (i := 64) (by decide +kernel)) rfl, by decide +kernel, by decide +kernel⟩
set_option maxRecDepth 20000 in
theorem ok_Deal_clear : kx_mok m_Deal_clear := ⟨by decide +kernel, kx_in (List.mem_of_getElem? (i := 1113) (by decide +kernel)) rfl, kx_in (List.mem_of_getElem? (i := 65) (by decide +kernel)) rfl, by decide +kernel, by decide +kernel⟩
set_option maxRecDepth 20000 in
theorem ok_Cloth_clear : kx_mok m_Cloth_clear := ⟨by decide +kernel, kx_in (List.mem_of_getElem? (i := 1118) (by decide +kernel)) rfl, kx_in (List.mem_of_getElem? (i := 66) (by decide +kernel)) rfl, by decide +kernel, by decide +kernel⟩
set_option maxRecDepth 20000 in
theorem ok_Script_clear : kx_mok m_Script_clear := ⟨by decide +kernel, kx_in (List.mem_of_getElem? (i := 1122) (by decide +kernel)) rfl, kx_in (List.mem_of_getElem? (i := 67) (by decide +kernel)) rfl, by decide +kernel, by decide +kernel⟩
set_option maxRecDepth 20000 in
theorem ok_Reader_open : kx_mok m_Reader_open := ⟨by decide +kernel, kx_in (List.mem_of_getElem? (i := 1126) (by decide +kernel)) rfl, kx_in (List.mem_of_getElem? (i := 55) (by decide +kernel)) rfl, by decide +kernel, by decide +kernel⟩
set_option maxRecDepth 20000 in
theorem ok_Reader_next : kx_mok m_Reader_next := ⟨by decide +kernel, kx_in (List.mem_of_getElem? (i := 1131) (by decide +kernel)) rfl, kx_in (List.mem_of_getElem? (i := 55) (by decide +kernel)) rfl, by decide +kernel, by decide +kernel⟩
set_option maxRecDepth 20000 in
theorem ok_Reader_readWord : kx_mok m_Reader_readWord := ⟨by decide +kernel, kx_in (List.mem_of_getElem? (i := 1135) (by decide +kernel)) rfl, kx_in (List.mem_of_getElem? (i := 55) (by decide +kernel)) rfl, by decide +kernel, by decide +kernel⟩
set_option maxRecDepth 20000 in
theorem ok_Reader_keyOf : kx_mok m_Reader_keyOf := ⟨by decide +kernel, kx_in (List.mem_of_getElem? (i := 1139) (by decide +kernel)) rfl, kx_in (List.mem_of_getElem? (i := 55) (by decide +kernel)) rfl, by decide +kernel, by decide +kernel⟩
set_option maxRecDepth 20000 in
theorem ok_Reader_readNumber : kx_mok m_Reader_readNumber := ⟨by decide +kernel, kx_in (List.mem_of_getElem? (i := 1143) (by decide +kernel)) rfl, kx_in (List.mem_of_getElem? (i := 55) (by decide +kernel)) rfl, by decide +kernel, by decide +kernel⟩
set_option maxRecDepth 20000 in
theorem ok_TreatyText_readPart : kx_mok m_TreatyText_readPart := ⟨by decide +kernel, kx_in (List.mem_of_getElem? (i := 1147) (by decide +kernel)) rfl, kx_in (List.mem_of_getElem? (i := 54) (by decide +kernel)) rfl, by decide +kernel, by decide +kernel⟩
set_option maxRecDepth 20000 in
theorem ok_TreatyText_readMeasure : kx_mok m_TreatyText_readMeasure := ⟨by decide +kernel, kx_in (List.mem_of_getElem? (i := 1151) (by decide +kernel)) rfl, kx_in (List.mem_of_getElem? (i := 54) (by decide +kernel)) rfl, by decide +kernel, by decide +kernel⟩
set_option maxRecDepth 20000 in
theorem ok_Reader_fail : kx_mok m_Reader_fail := ⟨by decide +kernel, kx_in (List.mem_of_getElem? (i := 1155) (by decide +kernel)) rfl, kx_in (List.mem_of_getElem? (i := 55) (by decide +kernel)) rfl, by decide +kernel, by decide +kernel⟩
set_option maxRecDepth 20000 in
theorem ok_Reader_atNumber : kx_mok m_Reader_atNumber := ⟨by decide +kernel, kx_in (List.mem_of_getElem? (i := 1160) (by decide +kernel)) rfl, kx_in (List.mem_of_getElem? (i := 55) (by decide +kernel)) rfl, by decide +kernel, by decide +kernel⟩
set_option maxRecDepth 20000 in
theorem ok_Reader_takeSign : kx_mok m_Reader_takeSign := ⟨by decide +kernel, kx_in (List.mem_of_getElem? (i := 1165) (by decide +kernel)) rfl, kx_in (List.mem_of_getElem? (i := 55) (by decide +kernel)) rfl, by decide +kernel, by decide +kernel⟩
set_option maxRecDepth 20000 in
theorem ok_TreatyText_readQueen : kx_mok m_TreatyText_readQueen := ⟨by decide +kernel, kx_in (List.mem_of_getElem? (i := 1169) (by decide +kernel)) rfl, kx_in (List.mem_of_getElem? (i := 54) (by decide +kernel)) rfl, by decide +kernel, by decide +kernel⟩
set_option maxRecDepth 20000 in
theorem ok_TreatyText_newName : kx_mok m_TreatyText_newName := ⟨by decide +kernel, kx_in (List.mem_of_getElem? (i := 1173) (by decide +kernel)) rfl, kx_in (List.mem_of_getElem? (i := 54) (by decide +kernel)) rfl, by decide +kernel, by decide +kernel⟩
set_option maxRecDepth 20000 in
theorem ok_Deal_queenNamed : kx_mok m_Deal_queenNamed := ⟨by decide +kernel, kx_in (List.mem_of_getElem? (i := 1177) (by decide +kernel)) rfl, kx_in (List.mem_of_getElem? (i := 65) (by decide +kernel)) rfl, by decide +kernel, by decide +kernel⟩
set_option maxRecDepth 20000 in
theorem ok_Deal_indexIn : kx_mok m_Deal_indexIn := ⟨by decide +kernel, kx_in (List.mem_of_getElem? (i := 1180) (by decide +kernel)) rfl, kx_in (List.mem_of_getElem? (i := 65) (by decide +kernel)) rfl, by decide +kernel, by decide +kernel⟩
set_option maxRecDepth 20000 in
theorem ok_Deal_clauseNamed : kx_mok m_Deal_clauseNamed := ⟨by decide +kernel, kx_in (List.mem_of_getElem? (i := 1184) (by decide +kernel)) rfl, kx_in (List.mem_of_getElem? (i := 65) (by decide +kernel)) rfl, by decide +kernel, by decide +kernel⟩
set_option maxRecDepth 20000 in
theorem ok_TreatyText_readClause : kx_mok m_TreatyText_readClause := ⟨by decide +kernel, kx_in (List.mem_of_getElem? (i := 1188) (by decide +kernel)) rfl, kx_in (List.mem_of_getElem? (i := 54) (by decide +kernel)) rfl, by decide +kernel, by decide +kernel⟩
set_option maxRecDepth 20000 in
theorem ok_Reader_takeWord : kx_mok m_Reader_takeWord := ⟨by decide +kernel, kx_in (List.mem_of_getElem? (i := 1192) (by decide +kernel)) rfl, kx_in (List.mem_of_getElem? (i := 55) (by decide +kernel)) rfl, by decide +kernel, by decide +kernel⟩
set_option maxRecDepth 20000 in
theorem ok_Reader_atKind : kx_mok m_Reader_atKind := ⟨by decide +kernel, kx_in (List.mem_of_getElem? (i := 1197) (by decide +kernel)) rfl, kx_in (List.mem_of_getElem? (i := 55) (by decide +kernel)) rfl, by decide +kernel, by decide +kernel⟩
set_option maxRecDepth 20000 in
theorem ok_TreatyText_readClash : kx_mok m_TreatyText_readClash := ⟨by decide +kernel, kx_in (List.mem_of_getElem? (i := 1201) (by decide +kernel)) rfl, kx_in (List.mem_of_getElem? (i := 54) (by decide +kernel)) rfl, by decide +kernel, by decide +kernel⟩
set_option maxRecDepth 20000 in
theorem ok_TreatyText_readClauseName : kx_mok m_TreatyText_readClauseName := ⟨by decide +kernel, kx_in (List.mem_of_getElem? (i := 1205) (by decide +kernel)) rfl, kx_in (List.mem_of_getElem? (i := 54) (by decide +kernel)) rfl, by decide +kernel, by decide +kernel⟩
set_option maxRecDepth 20000 in
theorem ok_Deal_setOdds : kx_mok m_Deal_setOdds := ⟨by decide +kernel, kx_in (List.mem_of_getElem? (i := 1209) (by decide +kernel)) rfl, kx_in (List.mem_of_getElem? (i := 65) (by decide +kernel)) rfl, by decide +kernel, by decide +kernel⟩
set_option maxRecDepth 20000 in
theorem ok_TreatyText_readWorth : kx_mok m_TreatyText_readWorth := ⟨by decide +kernel, kx_in (List.mem_of_getElem? (i := 1213) (by decide +kernel)) rfl, kx_in (List.mem_of_getElem? (i := 54) (by decide +kernel)) rfl, by decide +kernel, by decide +kernel⟩
set_option maxRecDepth 20000 in
theorem ok_TreatyText_readQueenName : kx_mok m_TreatyText_readQueenName := ⟨by decide +kernel, kx_in (List.mem_of_getElem? (i := 1217) (by decide +kernel)) rfl, kx_in (List.mem_of_getElem? (i := 54) (by decide +kernel)) rfl, by decide +kernel, by decide +kernel⟩
set_option maxRecDepth 20000 in
theorem ok_TreatyText_readRow : kx_mok m_TreatyText_readRow := ⟨by decide +kernel, kx_in (List.mem_of_getElem? (i := 1222) (by decide +kernel)) rfl, kx_in (List.mem_of_getElem? (i := 54) (by decide +kernel)) rfl, by decide +kernel, by decide +kernel⟩
set_option maxRecDepth 20000 in
theorem ok_TreatyText_readRun : kx_mok m_TreatyText_readRun := ⟨by decide +kernel, kx_in (List.mem_of_getElem? (i := 1226) (by decide +kernel)) rfl, kx_in (List.mem_of_getElem? (i := 54) (by decide +kernel)) rfl, by decide +kernel, by decide +kernel⟩
set_option maxRecDepth 20000 in
theorem ok_KT_told : kx_mok m_KT_told := ⟨by decide +kernel, kx_in (List.mem_of_getElem? (i := 1232) (by decide +kernel)) rfl, kx_in (List.mem_of_getElem? (i := 53) (by decide +kernel)) rfl, by decide +kernel, by decide +kernel⟩
set_option maxRecDepth 20000 in
theorem ok_KT_centuries : kx_mok m_KT_centuries := ⟨by decide +kernel, kx_in (List.mem_of_getElem? (i := 1236) (by decide +kernel)) rfl, kx_in (List.mem_of_getElem? (i := 53) (by decide +kernel)) rfl, by decide +kernel, by decide +kernel⟩
set_option maxRecDepth 20000 in
theorem ok_CenturyText_parse : kx_mok m_CenturyText_parse := ⟨by decide +kernel, kx_in (List.mem_of_getElem? (i := 1240) (by decide +kernel)) rfl, kx_in (List.mem_of_getElem? (i := 60) (by decide +kernel)) rfl, by decide +kernel, by decide +kernel⟩
set_option maxRecDepth 20000 in
theorem ok_CenturyText_readEnd : kx_mok m_CenturyText_readEnd := ⟨by decide +kernel, kx_in (List.mem_of_getElem? (i := 1246) (by decide +kernel)) rfl, kx_in (List.mem_of_getElem? (i := 60) (by decide +kernel)) rfl, by decide +kernel, by decide +kernel⟩
set_option maxRecDepth 20000 in
theorem ok_Script_add : kx_mok m_Script_add := ⟨by decide +kernel, kx_in (List.mem_of_getElem? (i := 1251) (by decide +kernel)) rfl, kx_in (List.mem_of_getElem? (i := 67) (by decide +kernel)) rfl, by decide +kernel, by decide +kernel⟩
set_option maxRecDepth 20000 in
theorem ok_Script_couple : kx_mok m_Script_couple := ⟨by decide +kernel, kx_in (List.mem_of_getElem? (i := 1255) (by decide +kernel)) rfl, kx_in (List.mem_of_getElem? (i := 67) (by decide +kernel)) rfl, by decide +kernel, by decide +kernel⟩
set_option maxRecDepth 20000 in
theorem ok_CenturyText_readStep : kx_mok m_CenturyText_readStep := ⟨by decide +kernel, kx_in (List.mem_of_getElem? (i := 1260) (by decide +kernel)) rfl, kx_in (List.mem_of_getElem? (i := 60) (by decide +kernel)) rfl, by decide +kernel, by decide +kernel⟩
set_option maxRecDepth 20000 in
theorem ok_CenturyText_beginsStep : kx_mok m_CenturyText_beginsStep := ⟨by decide +kernel, kx_in (List.mem_of_getElem? (i := 1263) (by decide +kernel)) rfl, kx_in (List.mem_of_getElem? (i := 60) (by decide +kernel)) rfl, by decide +kernel, by decide +kernel⟩
set_option maxRecDepth 20000 in
theorem ok_CenturyText_readOne : kx_mok m_CenturyText_readOne := ⟨by decide +kernel, kx_in (List.mem_of_getElem? (i := 1267) (by decide +kernel)) rfl, kx_in (List.mem_of_getElem? (i := 60) (by decide +kernel)) rfl, by decide +kernel, by decide +kernel⟩
set_option maxRecDepth 20000 in
theorem ok_CenturyText_readTwo : kx_mok m_CenturyText_readTwo := ⟨by decide +kernel, kx_in (List.mem_of_getElem? (i := 1272) (by decide +kernel)) rfl, kx_in (List.mem_of_getElem? (i := 60) (by decide +kernel)) rfl, by decide +kernel, by decide +kernel⟩
set_option maxRecDepth 20000 in
theorem ok_CenturyText_readTest : kx_mok m_CenturyText_readTest := ⟨by decide +kernel, kx_in (List.mem_of_getElem? (i := 1276) (by decide +kernel)) rfl, kx_in (List.mem_of_getElem? (i := 60) (by decide +kernel)) rfl, by decide +kernel, by decide +kernel⟩
set_option maxRecDepth 20000 in
theorem ok_CenturyText_readSaid : kx_mok m_CenturyText_readSaid := ⟨by decide +kernel, kx_in (List.mem_of_getElem? (i := 1280) (by decide +kernel)) rfl, kx_in (List.mem_of_getElem? (i := 60) (by decide +kernel)) rfl, by decide +kernel, by decide +kernel⟩
set_option maxRecDepth 20000 in
theorem ok_CenturyText_readUndone : kx_mok m_CenturyText_readUndone := ⟨by decide +kernel, kx_in (List.mem_of_getElem? (i := 1285) (by decide +kernel)) rfl, kx_in (List.mem_of_getElem? (i := 60) (by decide +kernel)) rfl, by decide +kernel, by decide +kernel⟩
set_option maxRecDepth 20000 in
theorem ok_LW_draw : kx_mok m_LW_draw := ⟨by decide +kernel, kx_in (List.mem_of_getElem? (i := 1290) (by decide +kernel)) rfl, kx_in (List.mem_of_getElem? (i := 52) (by decide +kernel)) rfl, by decide +kernel, by decide +kernel⟩
set_option maxRecDepth 20000 in
theorem ok_LW_size : kx_mok m_LW_size := ⟨by decide +kernel, kx_in (List.mem_of_getElem? (i := 1293) (by decide +kernel)) rfl, kx_in (List.mem_of_getElem? (i := 52) (by decide +kernel)) rfl, by decide +kernel, by decide +kernel⟩

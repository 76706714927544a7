set_option maxRecDepth 20000 in
theorem ok_KT_init : kx_mok m_KT_init := ⟨by decide +kernel, kx_in (List.mem_of_getElem? (i := 195) (by decide +kernel)) rfl, kx_in (List.mem_of_getElem? (i := 170) (by decide +kernel)) rfl, by decide +kernel, by decide +kernel⟩
set_option maxRecDepth 20000 in
theorem ok_TreatyText_init : kx_mok m_TreatyText_init := ⟨by decide +kernel, kx_in (List.mem_of_getElem? (i := 207) (by decide +kernel)) rfl, kx_in (List.mem_of_getElem? (i := 171) (by decide +kernel)) rfl, by decide +kernel, by decide +kernel⟩
set_option maxRecDepth 20000 in
theorem ok_Reader_init : kx_mok m_Reader_init := ⟨by decide +kernel, kx_in (List.mem_of_getElem? (i := 213) (by decide +kernel)) rfl, kx_in (List.mem_of_getElem? (i := 172) (by decide +kernel)) rfl, by decide +kernel, by decide +kernel⟩
set_option maxRecDepth 20000 in
theorem ok_CenturyText_init : kx_mok m_CenturyText_init := ⟨by decide +kernel, kx_in (List.mem_of_getElem? (i := 330) (by decide +kernel)) rfl, kx_in (List.mem_of_getElem? (i := 177) (by decide +kernel)) rfl, by decide +kernel, by decide +kernel⟩
set_option maxRecDepth 20000 in
theorem ok_Seen_init : kx_mok m_Seen_init := ⟨by decide +kernel, kx_in (List.mem_of_getElem? (i := 349) (by decide +kernel)) rfl, kx_in (List.mem_of_getElem? (i := 178) (by decide +kernel)) rfl, by decide +kernel, by decide +kernel⟩
set_option maxRecDepth 20000 in
theorem ok_Joiner_init : kx_mok m_Joiner_init := ⟨by decide +kernel, kx_in (List.mem_of_getElem? (i := 376) (by decide +kernel)) rfl, kx_in (List.mem_of_getElem? (i := 179) (by decide +kernel)) rfl, by decide +kernel, by decide +kernel⟩
set_option maxRecDepth 20000 in
theorem ok_Life_init : kx_mok m_Life_init := ⟨by decide +kernel, kx_in (List.mem_of_getElem? (i := 406) (by decide +kernel)) rfl, kx_in (List.mem_of_getElem? (i := 180) (by decide +kernel)) rfl, by decide +kernel, by decide +kernel⟩
set_option maxRecDepth 20000 in
theorem ok_State_init : kx_mok m_State_init := ⟨by decide +kernel, kx_in (List.mem_of_getElem? (i := 442) (by decide +kernel)) rfl, kx_in (List.mem_of_getElem? (i := 181) (by decide +kernel)) rfl, by decide +kernel, by decide +kernel⟩
set_option maxRecDepth 20000 in
theorem ok_Deal_init : kx_mok m_Deal_init := ⟨by decide +kernel, kx_in (List.mem_of_getElem? (i := 448) (by decide +kernel)) rfl, kx_in (List.mem_of_getElem? (i := 182) (by decide +kernel)) rfl, by decide +kernel, by decide +kernel⟩
set_option maxRecDepth 20000 in
theorem ok_Cloth_init : kx_mok m_Cloth_init := ⟨by decide +kernel, kx_in (List.mem_of_getElem? (i := 503) (by decide +kernel)) rfl, kx_in (List.mem_of_getElem? (i := 183) (by decide +kernel)) rfl, by decide +kernel, by decide +kernel⟩
set_option maxRecDepth 20000 in
theorem ok_Script_init : kx_mok m_Script_init := ⟨by decide +kernel, kx_in (List.mem_of_getElem? (i := 555) (by decide +kernel)) rfl, kx_in (List.mem_of_getElem? (i := 184) (by decide +kernel)) rfl, by decide +kernel, by decide +kernel⟩
set_option maxRecDepth 20000 in
theorem ok_Tray_init : kx_mok m_Tray_init := ⟨by decide +kernel, kx_in (List.mem_of_getElem? (i := 609) (by decide +kernel)) rfl, kx_in (List.mem_of_getElem? (i := 185) (by decide +kernel)) rfl, by decide +kernel, by decide +kernel⟩
set_option maxRecDepth 20000 in
theorem ok_KT_status : kx_mok m_KT_status := ⟨by decide +kernel, kx_in (List.mem_of_getElem? (i := 688) (by decide +kernel)) rfl, kx_in (List.mem_of_getElem? (i := 170) (by decide +kernel)) rfl, by decide +kernel, by decide +kernel⟩
set_option maxRecDepth 20000 in
theorem ok_KT_top : kx_mok m_KT_top := ⟨by decide +kernel, kx_in (List.mem_of_getElem? (i := 692) (by decide +kernel)) rfl, kx_in (List.mem_of_getElem? (i := 170) (by decide +kernel)) rfl, by decide +kernel, by decide +kernel⟩
set_option maxRecDepth 20000 in
theorem ok_KT_bottom : kx_mok m_KT_bottom := ⟨by decide +kernel, kx_in (List.mem_of_getElem? (i := 696) (by decide +kernel)) rfl, kx_in (List.mem_of_getElem? (i := 170) (by decide +kernel)) rfl, by decide +kernel, by decide +kernel⟩
set_option maxRecDepth 20000 in
theorem ok_KT_tray : kx_mok m_KT_tray := ⟨by decide +kernel, kx_in (List.mem_of_getElem? (i := 700) (by decide +kernel)) rfl, kx_in (List.mem_of_getElem? (i := 170) (by decide +kernel)) rfl, by decide +kernel, by decide +kernel⟩
set_option maxRecDepth 20000 in
theorem ok_KT_noTray : kx_mok m_KT_noTray := ⟨by decide +kernel, kx_in (List.mem_of_getElem? (i := 703) (by decide +kernel)) rfl, kx_in (List.mem_of_getElem? (i := 170) (by decide +kernel)) rfl, by decide +kernel, by decide +kernel⟩
set_option maxRecDepth 20000 in
theorem ok_KT_refused : kx_mok m_KT_refused := ⟨by decide +kernel, kx_in (List.mem_of_getElem? (i := 707) (by decide +kernel)) rfl, kx_in (List.mem_of_getElem? (i := 170) (by decide +kernel)) rfl, by decide +kernel, by decide +kernel⟩
set_option maxRecDepth 20000 in
theorem ok_Tray_lay : kx_mok m_Tray_lay := ⟨by decide +kernel, kx_in (List.mem_of_getElem? (i := 711) (by decide +kernel)) rfl, kx_in (List.mem_of_getElem? (i := 185) (by decide +kernel)) rfl, by decide +kernel, by decide +kernel⟩
set_option maxRecDepth 20000 in
theorem ok_Arr_fill : kx_mok m_Arr_fill := ⟨by decide +kernel, kx_in (List.mem_of_getElem? (i := 714) (by decide +kernel)) rfl, kx_in (List.mem_of_getElem? (i := 187) (by decide +kernel)) rfl, by decide +kernel, by decide +kernel⟩
set_option maxRecDepth 20000 in
theorem ok_KT_write : kx_mok m_KT_write := ⟨by decide +kernel, kx_in (List.mem_of_getElem? (i := 718) (by decide +kernel)) rfl, kx_in (List.mem_of_getElem? (i := 170) (by decide +kernel)) rfl, by decide +kernel, by decide +kernel⟩
set_option maxRecDepth 20000 in
theorem ok_KT_placeStatus : kx_mok m_KT_placeStatus := ⟨by decide +kernel, kx_in (List.mem_of_getElem? (i := 722) (by decide +kernel)) rfl, kx_in (List.mem_of_getElem? (i := 170) (by decide +kernel)) rfl, by decide +kernel, by decide +kernel⟩
set_option maxRecDepth 20000 in
theorem ok_Tray_lacks : kx_mok m_Tray_lacks := ⟨by decide +kernel, kx_in (List.mem_of_getElem? (i := 726) (by decide +kernel)) rfl, kx_in (List.mem_of_getElem? (i := 185) (by decide +kernel)) rfl, by decide +kernel, by decide +kernel⟩
set_option maxRecDepth 20000 in
theorem ok_Tray_put : kx_mok m_Tray_put := ⟨by decide +kernel, kx_in (List.mem_of_getElem? (i := 730) (by decide +kernel)) rfl, kx_in (List.mem_of_getElem? (i := 185) (by decide +kernel)) rfl, by decide +kernel, by decide +kernel⟩
set_option maxRecDepth 20000 in
theorem ok_KT_read : kx_mok m_KT_read := ⟨by decide +kernel, kx_in (List.mem_of_getElem? (i := 734) (by decide +kernel)) rfl, kx_in (List.mem_of_getElem? (i := 170) (by decide +kernel)) rfl, by decide +kernel, by decide +kernel⟩
set_option maxRecDepth 20000 in
theorem ok_KT_pour : kx_mok m_KT_pour := ⟨by decide +kernel, kx_in (List.mem_of_getElem? (i := 739) (by decide +kernel)) rfl, kx_in (List.mem_of_getElem? (i := 170) (by decide +kernel)) rfl, by decide +kernel, by decide +kernel⟩
set_option maxRecDepth 20000 in
theorem ok_KT_feed : kx_mok m_KT_feed := ⟨by decide +kernel, kx_in (List.mem_of_getElem? (i := 746) (by decide +kernel)) rfl, kx_in (List.mem_of_getElem? (i := 170) (by decide +kernel)) rfl, by decide +kernel, by decide +kernel⟩
set_option maxRecDepth 20000 in
theorem ok_KT_feedInt : kx_mok m_KT_feedInt := ⟨by decide +kernel, kx_in (List.mem_of_getElem? (i := 750) (by decide +kernel)) rfl, kx_in (List.mem_of_getElem? (i := 170) (by decide +kernel)) rfl, by decide +kernel, by decide +kernel⟩
set_option maxRecDepth 20000 in
theorem ok_KT_treaty : kx_mok m_KT_treaty := ⟨by decide +kernel, kx_in (List.mem_of_getElem? (i := 754) (by decide +kernel)) rfl, kx_in (List.mem_of_getElem? (i := 170) (by decide +kernel)) rfl, by decide +kernel, by decide +kernel⟩
set_option maxRecDepth 20000 in
theorem ok_TreatyText_parse : kx_mok m_TreatyText_parse := ⟨by decide +kernel, kx_in (List.mem_of_getElem? (i := 758) (by decide +kernel)) rfl, kx_in (List.mem_of_getElem? (i := 171) (by decide +kernel)) rfl, by decide +kernel, by decide +kernel⟩
set_option maxRecDepth 20000 in
theorem ok_State_clear : kx_mok m_State_clear := ⟨by decide +kernel, kx_in (List.mem_of_getElem? (i := 762) (by decide +kernel)) rfl, kx_in (List.mem_of_getElem? (i := 181) (by decide +kernel)) rfl, by decide +kernel, by decide +kernel⟩
set_option maxRecDepth 20000 in
theorem ok_Deal_clear : kx_mok m_Deal_clear := ⟨by decide +kernel, kx_in (List.mem_of_getElem? (i := 766) (by decide +kernel)) rfl, kx_in (List.mem_of_getElem? (i := 182) (by decide +kernel)) rfl, by decide +kernel, by decide +kernel⟩
set_option maxRecDepth 20000 in
theorem ok_Arr_fill_2 : kx_mok m_Arr_fill_2 := ⟨by decide +kernel, kx_in (List.mem_of_getElem? (i := 769) (by decide +kernel)) rfl, kx_in (List.mem_of_getElem? (i := 187) (by decide +kernel)) rfl, by decide +kernel, by decide +kernel⟩
set_option maxRecDepth 20000 in
theorem ok_Cloth_clear : kx_mok m_Cloth_clear := ⟨by decide +kernel, kx_in (List.mem_of_getElem? (i := 773) (by decide +kernel)) rfl, kx_in (List.mem_of_getElem? (i := 183) (by decide +kernel)) rfl, by decide +kernel, by decide +kernel⟩
set_option maxRecDepth 20000 in
theorem ok_Script_clear : kx_mok m_Script_clear := ⟨by decide +kernel, kx_in (List.mem_of_getElem? (i := 777) (by decide +kernel)) rfl, kx_in (List.mem_of_getElem? (i := 184) (by decide +kernel)) rfl, by decide +kernel, by decide +kernel⟩
set_option maxRecDepth 20000 in
theorem ok_Reader_open : kx_mok m_Reader_open := ⟨by decide +kernel, kx_in (List.mem_of_getElem? (i := 781) (by decide +kernel)) rfl, kx_in (List.mem_of_getElem? (i := 172) (by decide +kernel)) rfl, by decide +kernel, by decide +kernel⟩
set_option maxRecDepth 20000 in
theorem ok_Reader_next : kx_mok m_Reader_next := ⟨by decide +kernel, kx_in (List.mem_of_getElem? (i := 788) (by decide +kernel)) rfl, kx_in (List.mem_of_getElem? (i := 172) (by decide +kernel)) rfl, by decide +kernel, by decide +kernel⟩
set_option maxRecDepth 20000 in
theorem ok_Reader_readWord : kx_mok m_Reader_readWord := ⟨by decide +kernel, kx_in (List.mem_of_getElem? (i := 792) (by decide +kernel)) rfl, kx_in (List.mem_of_getElem? (i := 172) (by decide +kernel)) rfl, by decide +kernel, by decide +kernel⟩
set_option maxRecDepth 20000 in
theorem ok_Reader_keyOf : kx_mok m_Reader_keyOf := ⟨by decide +kernel, kx_in (List.mem_of_getElem? (i := 796) (by decide +kernel)) rfl, kx_in (List.mem_of_getElem? (i := 172) (by decide +kernel)) rfl, by decide +kernel, by decide +kernel⟩
set_option maxRecDepth 20000 in
theorem ok_Reader_readNumber : kx_mok m_Reader_readNumber := ⟨by decide +kernel, kx_in (List.mem_of_getElem? (i := 800) (by decide +kernel)) rfl, kx_in (List.mem_of_getElem? (i := 172) (by decide +kernel)) rfl, by decide +kernel, by decide +kernel⟩
set_option maxRecDepth 20000 in
theorem ok_TreatyText_readPart : kx_mok m_TreatyText_readPart := ⟨by decide +kernel, kx_in (List.mem_of_getElem? (i := 804) (by decide +kernel)) rfl, kx_in (List.mem_of_getElem? (i := 171) (by decide +kernel)) rfl, by decide +kernel, by decide +kernel⟩
set_option maxRecDepth 20000 in
theorem ok_TreatyText_readMeasure : kx_mok m_TreatyText_readMeasure := ⟨by decide +kernel, kx_in (List.mem_of_getElem? (i := 808) (by decide +kernel)) rfl, kx_in (List.mem_of_getElem? (i := 171) (by decide +kernel)) rfl, by decide +kernel, by decide +kernel⟩
set_option maxRecDepth 20000 in
theorem ok_Reader_fail : kx_mok m_Reader_fail := ⟨by decide +kernel, kx_in (List.mem_of_getElem? (i := 812) (by decide +kernel)) rfl, kx_in (List.mem_of_getElem? (i := 172) (by decide +kernel)) rfl, by decide +kernel, by decide +kernel⟩
set_option maxRecDepth 20000 in
theorem ok_Reader_atNumber : kx_mok m_Reader_atNumber := ⟨by decide +kernel, kx_in (List.mem_of_getElem? (i := 817) (by decide +kernel)) rfl, kx_in (List.mem_of_getElem? (i := 172) (by decide +kernel)) rfl, by decide +kernel, by decide +kernel⟩
set_option maxRecDepth 20000 in
theorem ok_Reader_takeSign : kx_mok m_Reader_takeSign := ⟨by decide +kernel, kx_in (List.mem_of_getElem? (i := 822) (by decide +kernel)) rfl, kx_in (List.mem_of_getElem? (i := 172) (by decide +kernel)) rfl, by decide +kernel, by decide +kernel⟩
set_option maxRecDepth 20000 in
theorem ok_TreatyText_readQueen : kx_mok m_TreatyText_readQueen := ⟨by decide +kernel, kx_in (List.mem_of_getElem? (i := 826) (by decide +kernel)) rfl, kx_in (List.mem_of_getElem? (i := 171) (by decide +kernel)) rfl, by decide +kernel, by decide +kernel⟩
set_option maxRecDepth 20000 in
theorem ok_TreatyText_newName : kx_mok m_TreatyText_newName := ⟨by decide +kernel, kx_in (List.mem_of_getElem? (i := 830) (by decide +kernel)) rfl, kx_in (List.mem_of_getElem? (i := 171) (by decide +kernel)) rfl, by decide +kernel, by decide +kernel⟩
set_option maxRecDepth 20000 in
theorem ok_Deal_queenNamed : kx_mok m_Deal_queenNamed := ⟨by decide +kernel, kx_in (List.mem_of_getElem? (i := 834) (by decide +kernel)) rfl, kx_in (List.mem_of_getElem? (i := 182) (by decide +kernel)) rfl, by decide +kernel, by decide +kernel⟩
set_option maxRecDepth 20000 in
theorem ok_Deal_indexIn : kx_mok m_Deal_indexIn := ⟨by decide +kernel, kx_in (List.mem_of_getElem? (i := 837) (by decide +kernel)) rfl, kx_in (List.mem_of_getElem? (i := 182) (by decide +kernel)) rfl, by decide +kernel, by decide +kernel⟩
set_option maxRecDepth 20000 in
theorem ok_Deal_clauseNamed : kx_mok m_Deal_clauseNamed := ⟨by decide +kernel, kx_in (List.mem_of_getElem? (i := 841) (by decide +kernel)) rfl, kx_in (List.mem_of_getElem? (i := 182) (by decide +kernel)) rfl, by decide +kernel, by decide +kernel⟩
set_option maxRecDepth 20000 in
theorem ok_TreatyText_readClause : kx_mok m_TreatyText_readClause := ⟨by decide +kernel, kx_in (List.mem_of_getElem? (i := 845) (by decide +kernel)) rfl, kx_in (List.mem_of_getElem? (i := 171) (by decide +kernel)) rfl, by decide +kernel, by decide +kernel⟩
set_option maxRecDepth 20000 in
theorem ok_Reader_takeWord : kx_mok m_Reader_takeWord := ⟨by decide +kernel, kx_in (List.mem_of_getElem? (i := 849) (by decide +kernel)) rfl, kx_in (List.mem_of_getElem? (i := 172) (by decide +kernel)) rfl, by decide +kernel, by decide +kernel⟩
set_option maxRecDepth 20000 in
theorem ok_Reader_atKind : kx_mok m_Reader_atKind := ⟨by decide +kernel, kx_in (List.mem_of_getElem? (i := 854) (by decide +kernel)) rfl, kx_in (List.mem_of_getElem? (i := 172) (by decide +kernel)) rfl, by decide +kernel, by decide +kernel⟩
set_option maxRecDepth 20000 in
theorem ok_TreatyText_readClash : kx_mok m_TreatyText_readClash := ⟨by decide +kernel, kx_in (List.mem_of_getElem? (i := 858) (by decide +kernel)) rfl, kx_in (List.mem_of_getElem? (i := 171) (by decide +kernel)) rfl, by decide +kernel, by decide +kernel⟩
set_option maxRecDepth 20000 in
theorem ok_TreatyText_readClauseName : kx_mok m_TreatyText_readClauseName := ⟨by decide +kernel, kx_in (List.mem_of_getElem? (i := 862) (by decide +kernel)) rfl, kx_in (List.mem_of_getElem? (i := 171) (by decide +kernel)) rfl, by decide +kernel, by decide +kernel⟩
set_option maxRecDepth 20000 in
theorem ok_Deal_setOdds : kx_mok m_Deal_setOdds := ⟨by decide +kernel, kx_in (List.mem_of_getElem? (i := 866) (by decide +kernel)) rfl, kx_in (List.mem_of_getElem? (i := 182) (by decide +kernel)) rfl, by decide +kernel, by decide +kernel⟩
set_option maxRecDepth 20000 in
theorem ok_TreatyText_readWorth : kx_mok m_TreatyText_readWorth := ⟨by decide +kernel, kx_in (List.mem_of_getElem? (i := 870) (by decide +kernel)) rfl, kx_in (List.mem_of_getElem? (i := 171) (by decide +kernel)) rfl, by decide +kernel, by decide +kernel⟩
set_option maxRecDepth 20000 in
theorem ok_TreatyText_readQueenName : kx_mok m_TreatyText_readQueenName := ⟨by decide +kernel, kx_in (List.mem_of_getElem? (i := 874) (by decide +kernel)) rfl, kx_in (List.mem_of_getElem? (i := 171) (by decide +kernel)) rfl, by decide +kernel, by decide +kernel⟩
set_option maxRecDepth 20000 in
theorem ok_Deal_worthAt : kx_mok m_Deal_worthAt := ⟨by decide +kernel, kx_in (List.mem_of_getElem? (i := 877) (by decide +kernel)) rfl, kx_in (List.mem_of_getElem? (i := 182) (by decide +kernel)) rfl, by decide +kernel, by decide +kernel⟩
set_option maxRecDepth 20000 in
theorem ok_TreatyText_readRow : kx_mok m_TreatyText_readRow := ⟨by decide +kernel, kx_in (List.mem_of_getElem? (i := 881) (by decide +kernel)) rfl, kx_in (List.mem_of_getElem? (i := 171) (by decide +kernel)) rfl, by decide +kernel, by decide +kernel⟩
set_option maxRecDepth 20000 in
theorem ok_TreatyText_readRun : kx_mok m_TreatyText_readRun := ⟨by decide +kernel, kx_in (List.mem_of_getElem? (i := 885) (by decide +kernel)) rfl, kx_in (List.mem_of_getElem? (i := 171) (by decide +kernel)) rfl, by decide +kernel, by decide +kernel⟩
set_option maxRecDepth 20000 in
theorem ok_Cloth_lay : kx_mok m_Cloth_lay := ⟨by decide +kernel, kx_in (List.mem_of_getElem? (i := 889) (by decide +kernel)) rfl, kx_in (List.mem_of_getElem? (i := 183) (by decide +kernel)) rfl, by decide +kernel, by decide +kernel⟩
set_option maxRecDepth 20000 in
theorem ok_Cloth_at : kx_mok m_Cloth_at := ⟨by decide +kernel, kx_in (List.mem_of_getElem? (i := 892) (by decide +kernel)) rfl, kx_in (List.mem_of_getElem? (i := 183) (by decide +kernel)) rfl, by decide +kernel, by decide +kernel⟩
set_option maxRecDepth 20000 in
theorem ok_Cloth_closeRow : kx_mok m_Cloth_closeRow := ⟨by decide +kernel, kx_in (List.mem_of_getElem? (i := 896) (by decide +kernel)) rfl, kx_in (List.mem_of_getElem? (i := 183) (by decide +kernel)) rfl, by decide +kernel, by decide +kernel⟩
set_option maxRecDepth 20000 in
theorem ok_KT_told : kx_mok m_KT_told := ⟨by decide +kernel, kx_in (List.mem_of_getElem? (i := 900) (by decide +kernel)) rfl, kx_in (List.mem_of_getElem? (i := 170) (by decide +kernel)) rfl, by decide +kernel, by decide +kernel⟩
set_option maxRecDepth 20000 in
theorem ok_KT_centuries : kx_mok m_KT_centuries := ⟨by decide +kernel, kx_in (List.mem_of_getElem? (i := 904) (by decide +kernel)) rfl, kx_in (List.mem_of_getElem? (i := 170) (by decide +kernel)) rfl, by decide +kernel, by decide +kernel⟩
set_option maxRecDepth 20000 in
theorem ok_CenturyText_parse : kx_mok m_CenturyText_parse := ⟨by decide +kernel, kx_in (List.mem_of_getElem? (i := 908) (by decide +kernel)) rfl, kx_in (List.mem_of_getElem? (i := 177) (by decide +kernel)) rfl, by decide +kernel, by decide +kernel⟩
set_option maxRecDepth 20000 in
theorem ok_CenturyText_readEnd : kx_mok m_CenturyText_readEnd := ⟨by decide +kernel, kx_in (List.mem_of_getElem? (i := 914) (by decide +kernel)) rfl, kx_in (List.mem_of_getElem? (i := 177) (by decide +kernel)) rfl, by decide +kernel, by decide +kernel⟩
set_option maxRecDepth 20000 in
theorem ok_Script_add : kx_mok m_Script_add := ⟨by decide +kernel, kx_in (List.mem_of_getElem? (i := 919) (by decide +kernel)) rfl, kx_in (List.mem_of_getElem? (i := 184) (by decide +kernel)) rfl, by decide +kernel, by decide +kernel⟩
set_option maxRecDepth 20000 in
theorem ok_Script_couple : kx_mok m_Script_couple := ⟨by decide +kernel, kx_in (List.mem_of_getElem? (i := 923) (by decide +kernel)) rfl, kx_in (List.mem_of_getElem? (i := 184) (by decide +kernel)) rfl, by decide +kernel, by decide +kernel⟩
set_option maxRecDepth 20000 in
theorem ok_CenturyText_readStep : kx_mok m_CenturyText_readStep := ⟨by decide +kernel, kx_in (List.mem_of_getElem? (i := 928) (by decide +kernel)) rfl, kx_in (List.mem_of_getElem? (i := 177) (by decide +kernel)) rfl, by decide +kernel, by decide +kernel⟩
set_option maxRecDepth 20000 in
theorem ok_CenturyText_beginsStep : kx_mok m_CenturyText_beginsStep := ⟨by decide +kernel, kx_in (List.mem_of_getElem? (i := 931) (by decide +kernel)) rfl, kx_in (List.mem_of_getElem? (i := 177) (by decide +kernel)) rfl, by decide +kernel, by decide +kernel⟩
set_option maxRecDepth 20000 in
theorem ok_CenturyText_readOne : kx_mok m_CenturyText_readOne := ⟨by decide +kernel, kx_in (List.mem_of_getElem? (i := 935) (by decide +kernel)) rfl, kx_in (List.mem_of_getElem? (i := 177) (by decide +kernel)) rfl, by decide +kernel, by decide +kernel⟩
set_option maxRecDepth 20000 in
theorem ok_CenturyText_readTwo : kx_mok m_CenturyText_readTwo := ⟨by decide +kernel, kx_in (List.mem_of_getElem? (i := 940) (by decide +kernel)) rfl, kx_in (List.mem_of_getElem? (i := 177) (by decide +kernel)) rfl, by decide +kernel, by decide +kernel⟩
set_option maxRecDepth 20000 in
theorem ok_CenturyText_readTest : kx_mok m_CenturyText_readTest := ⟨by decide +kernel, kx_in (List.mem_of_getElem? (i := 944) (by decide +kernel)) rfl, kx_in (List.mem_of_getElem? (i := 177) (by decide +kernel)) rfl, by decide +kernel, by decide +kernel⟩
set_option maxRecDepth 20000 in
theorem ok_CenturyText_readSaid : kx_mok m_CenturyText_readSaid := ⟨by decide +kernel, kx_in (List.mem_of_getElem? (i := 948) (by decide +kernel)) rfl, kx_in (List.mem_of_getElem? (i := 177) (by decide +kernel)) rfl, by decide +kernel, by decide +kernel⟩
set_option maxRecDepth 20000 in
theorem ok_CenturyText_readUndone : kx_mok m_CenturyText_readUndone := ⟨by decide +kernel, kx_in (List.mem_of_getElem? (i := 953) (by decide +kernel)) rfl, kx_in (List.mem_of_getElem? (i := 177) (by decide +kernel)) rfl, by decide +kernel, by decide +kernel⟩
set_option maxRecDepth 20000 in
theorem ok_Script_copyFrom : kx_mok m_Script_copyFrom := ⟨by decide +kernel, kx_in (List.mem_of_getElem? (i := 958) (by decide +kernel)) rfl, kx_in (List.mem_of_getElem? (i := 184) (by decide +kernel)) rfl, by decide +kernel, by decide +kernel⟩
set_option maxRecDepth 20000 in
theorem ok_KT_fault : kx_mok m_KT_fault := ⟨by decide +kernel, kx_in (List.mem_of_getElem? (i := 963) (by decide +kernel)) rfl, kx_in (List.mem_of_getElem? (i := 170) (by decide +kernel)) rfl, by decide +kernel, by decide +kernel⟩
set_option maxRecDepth 20000 in
theorem ok_KT_many : kx_mok m_KT_many := ⟨by decide +kernel, kx_in (List.mem_of_getElem? (i := 967) (by decide +kernel)) rfl, kx_in (List.mem_of_getElem? (i := 170) (by decide +kernel)) rfl, by decide +kernel, by decide +kernel⟩
set_option maxRecDepth 20000 in
theorem ok_Cloth_sum : kx_mok m_Cloth_sum := ⟨by decide +kernel, kx_in (List.mem_of_getElem? (i := 971) (by decide +kernel)) rfl, kx_in (List.mem_of_getElem? (i := 183) (by decide +kernel)) rfl, by decide +kernel, by decide +kernel⟩
set_option maxRecDepth 20000 in
theorem ok_Cloth_wornInAll : kx_mok m_Cloth_wornInAll := ⟨by decide +kernel, kx_in (List.mem_of_getElem? (i := 975) (by decide +kernel)) rfl, kx_in (List.mem_of_getElem? (i := 183) (by decide +kernel)) rfl, by decide +kernel, by decide +kernel⟩
set_option maxRecDepth 20000 in
theorem ok_Cloth_saidSet : kx_mok m_Cloth_saidSet := ⟨by decide +kernel, kx_in (List.mem_of_getElem? (i := 979) (by decide +kernel)) rfl, kx_in (List.mem_of_getElem? (i := 183) (by decide +kernel)) rfl, by decide +kernel, by decide +kernel⟩
set_option maxRecDepth 20000 in
theorem ok_Cloth_saidSetIn : kx_mok m_Cloth_saidSetIn := ⟨by decide +kernel, kx_in (List.mem_of_getElem? (i := 983) (by decide +kernel)) rfl, kx_in (List.mem_of_getElem? (i := 183) (by decide +kernel)) rfl, by decide +kernel, by decide +kernel⟩
set_option maxRecDepth 20000 in
theorem ok_Cloth_timesIn : kx_mok m_Cloth_timesIn := ⟨by decide +kernel, kx_in (List.mem_of_getElem? (i := 987) (by decide +kernel)) rfl, kx_in (List.mem_of_getElem? (i := 183) (by decide +kernel)) rfl, by decide +kernel, by decide +kernel⟩
set_option maxRecDepth 20000 in
theorem ok_Cloth_saysAt : kx_mok m_Cloth_saysAt := ⟨by decide +kernel, kx_in (List.mem_of_getElem? (i := 991) (by decide +kernel)) rfl, kx_in (List.mem_of_getElem? (i := 183) (by decide +kernel)) rfl, by decide +kernel, by decide +kernel⟩
set_option maxRecDepth 20000 in
theorem ok_KT_stitch : kx_mok m_KT_stitch := ⟨by decide +kernel, kx_in (List.mem_of_getElem? (i := 995) (by decide +kernel)) rfl, kx_in (List.mem_of_getElem? (i := 170) (by decide +kernel)) rfl, by decide +kernel, by decide +kernel⟩
set_option maxRecDepth 20000 in
theorem ok_KT_noRow : kx_mok m_KT_noRow := ⟨by decide +kernel, kx_in (List.mem_of_getElem? (i := 999) (by decide +kernel)) rfl, kx_in (List.mem_of_getElem? (i := 170) (by decide +kernel)) rfl, by decide +kernel, by decide +kernel⟩
set_option maxRecDepth 20000 in
theorem ok_KT_noColumn : kx_mok m_KT_noColumn := ⟨by decide +kernel, kx_in (List.mem_of_getElem? (i := 1003) (by decide +kernel)) rfl, kx_in (List.mem_of_getElem? (i := 170) (by decide +kernel)) rfl, by decide +kernel, by decide +kernel⟩
set_option maxRecDepth 20000 in
theorem ok_KT_queenOf : kx_mok m_KT_queenOf := ⟨by decide +kernel, kx_in (List.mem_of_getElem? (i := 1008) (by decide +kernel)) rfl, kx_in (List.mem_of_getElem? (i := 170) (by decide +kernel)) rfl, by decide +kernel, by decide +kernel⟩
set_option maxRecDepth 20000 in
theorem ok_KT_wool : kx_mok m_KT_wool := ⟨by decide +kernel, kx_in (List.mem_of_getElem? (i := 1012) (by decide +kernel)) rfl, kx_in (List.mem_of_getElem? (i := 170) (by decide +kernel)) rfl, by decide +kernel, by decide +kernel⟩
set_option maxRecDepth 20000 in
theorem ok_KT_noQueen : kx_mok m_KT_noQueen := ⟨by decide +kernel, kx_in (List.mem_of_getElem? (i := 1016) (by decide +kernel)) rfl, kx_in (List.mem_of_getElem? (i := 170) (by decide +kernel)) rfl, by decide +kernel, by decide +kernel⟩
set_option maxRecDepth 20000 in
theorem ok_KT_length : kx_mok m_KT_length := ⟨by decide +kernel, kx_in (List.mem_of_getElem? (i := 1020) (by decide +kernel)) rfl, kx_in (List.mem_of_getElem? (i := 170) (by decide +kernel)) rfl, by decide +kernel, by decide +kernel⟩
set_option maxRecDepth 20000 in
theorem ok_KT_noClause : kx_mok m_KT_noClause := ⟨by decide +kernel, kx_in (List.mem_of_getElem? (i := 1024) (by decide +kernel)) rfl, kx_in (List.mem_of_getElem? (i := 170) (by decide +kernel)) rfl, by decide +kernel, by decide +kernel⟩
set_option maxRecDepth 20000 in
theorem ok_KT_kind : kx_mok m_KT_kind := ⟨by decide +kernel, kx_in (List.mem_of_getElem? (i := 1028) (by decide +kernel)) rfl, kx_in (List.mem_of_getElem? (i := 170) (by decide +kernel)) rfl, by decide +kernel, by decide +kernel⟩
set_option maxRecDepth 20000 in
theorem ok_KT_clash : kx_mok m_KT_clash := ⟨by decide +kernel, kx_in (List.mem_of_getElem? (i := 1032) (by decide +kernel)) rfl, kx_in (List.mem_of_getElem? (i := 170) (by decide +kernel)) rfl, by decide +kernel, by decide +kernel⟩
set_option maxRecDepth 20000 in
theorem ok_KT_coupleStatus : kx_mok m_KT_coupleStatus := ⟨by decide +kernel, kx_in (List.mem_of_getElem? (i := 1036) (by decide +kernel)) rfl, kx_in (List.mem_of_getElem? (i := 170) (by decide +kernel)) rfl, by decide +kernel, by decide +kernel⟩
set_option maxRecDepth 20000 in
theorem ok_KT_worth : kx_mok m_KT_worth := ⟨by decide +kernel, kx_in (List.mem_of_getElem? (i := 1040) (by decide +kernel)) rfl, kx_in (List.mem_of_getElem? (i := 170) (by decide +kernel)) rfl, by decide +kernel, by decide +kernel⟩
set_option maxRecDepth 20000 in
theorem ok_KT_worthStatus : kx_mok m_KT_worthStatus := ⟨by decide +kernel, kx_in (List.mem_of_getElem? (i := 1044) (by decide +kernel)) rfl, kx_in (List.mem_of_getElem? (i := 170) (by decide +kernel)) rfl, by decide +kernel, by decide +kernel⟩
set_option maxRecDepth 20000 in
theorem ok_KT_copyRow : kx_mok m_KT_copyRow := ⟨by decide +kernel, kx_in (List.mem_of_getElem? (i := 1049) (by decide +kernel)) rfl, kx_in (List.mem_of_getElem? (i := 170) (by decide +kernel)) rfl, by decide +kernel, by decide +kernel⟩
set_option maxRecDepth 20000 in
theorem ok_KT_runStatus : kx_mok m_KT_runStatus := ⟨by decide +kernel, kx_in (List.mem_of_getElem? (i := 1053) (by decide +kernel)) rfl, kx_in (List.mem_of_getElem? (i := 170) (by decide +kernel)) rfl, by decide +kernel, by decide +kernel⟩
set_option maxRecDepth 20000 in
theorem ok_KT_year : kx_mok m_KT_year := ⟨by decide +kernel, kx_in (List.mem_of_getElem? (i := 1057) (by decide +kernel)) rfl, kx_in (List.mem_of_getElem? (i := 170) (by decide +kernel)) rfl, by decide +kernel, by decide +kernel⟩
set_option maxRecDepth 20000 in
theorem ok_Cloth_passYears : kx_mok m_Cloth_passYears := ⟨by decide +kernel, kx_in (List.mem_of_getElem? (i := 1061) (by decide +kernel)) rfl, kx_in (List.mem_of_getElem? (i := 183) (by decide +kernel)) rfl, by decide +kernel, by decide +kernel⟩
set_option maxRecDepth 20000 in
theorem ok_Cloth_anyLoose : kx_mok m_Cloth_anyLoose := ⟨by decide +kernel, kx_in (List.mem_of_getElem? (i := 1065) (by decide +kernel)) rfl, kx_in (List.mem_of_getElem? (i := 183) (by decide +kernel)) rfl, by decide +kernel, by decide +kernel⟩
set_option maxRecDepth 20000 in
theorem ok_Cloth_loose : kx_mok m_Cloth_loose := ⟨by decide +kernel, kx_in (List.mem_of_getElem? (i := 1069) (by decide +kernel)) rfl, kx_in (List.mem_of_getElem? (i := 183) (by decide +kernel)) rfl, by decide +kernel, by decide +kernel⟩
set_option maxRecDepth 20000 in
theorem ok_Cloth_passYear : kx_mok m_Cloth_passYear := ⟨by decide +kernel, kx_in (List.mem_of_getElem? (i := 1073) (by decide +kernel)) rfl, kx_in (List.mem_of_getElem? (i := 183) (by decide +kernel)) rfl, by decide +kernel, by decide +kernel⟩
set_option maxRecDepth 20000 in
theorem ok_Cloth_wearRow : kx_mok m_Cloth_wearRow := ⟨by decide +kernel, kx_in (List.mem_of_getElem? (i := 1077) (by decide +kernel)) rfl, kx_in (List.mem_of_getElem? (i := 183) (by decide +kernel)) rfl, by decide +kernel, by decide +kernel⟩
set_option maxRecDepth 20000 in
theorem ok_Cloth_gapAt : kx_mok m_Cloth_gapAt := ⟨by decide +kernel, kx_in (List.mem_of_getElem? (i := 1081) (by decide +kernel)) rfl, kx_in (List.mem_of_getElem? (i := 183) (by decide +kernel)) rfl, by decide +kernel, by decide +kernel⟩
set_option maxRecDepth 20000 in
theorem ok_Cloth_openRow : kx_mok m_Cloth_openRow := ⟨by decide +kernel, kx_in (List.mem_of_getElem? (i := 1086) (by decide +kernel)) rfl, kx_in (List.mem_of_getElem? (i := 183) (by decide +kernel)) rfl, by decide +kernel, by decide +kernel⟩
set_option maxRecDepth 20000 in
theorem ok_Cloth_withLadders : kx_mok m_Cloth_withLadders := ⟨by decide +kernel, kx_in (List.mem_of_getElem? (i := 1090) (by decide +kernel)) rfl, kx_in (List.mem_of_getElem? (i := 183) (by decide +kernel)) rfl, by decide +kernel, by decide +kernel⟩
set_option maxRecDepth 20000 in
theorem ok_KT_pull : kx_mok m_KT_pull := ⟨by decide +kernel, kx_in (List.mem_of_getElem? (i := 1094) (by decide +kernel)) rfl, kx_in (List.mem_of_getElem? (i := 170) (by decide +kernel)) rfl, by decide +kernel, by decide +kernel⟩
set_option maxRecDepth 20000 in
theorem ok_KT_pullStatus : kx_mok m_KT_pullStatus := ⟨by decide +kernel, kx_in (List.mem_of_getElem? (i := 1098) (by decide +kernel)) rfl, kx_in (List.mem_of_getElem? (i := 170) (by decide +kernel)) rfl, by decide +kernel, by decide +kernel⟩
set_option maxRecDepth 20000 in
theorem ok_Cloth_pullThread : kx_mok m_Cloth_pullThread := ⟨by decide +kernel, kx_in (List.mem_of_getElem? (i := 1102) (by decide +kernel)) rfl, kx_in (List.mem_of_getElem? (i := 183) (by decide +kernel)) rfl, by decide +kernel, by decide +kernel⟩
set_option maxRecDepth 20000 in
theorem ok_KT_moth : kx_mok m_KT_moth := ⟨by decide +kernel, kx_in (List.mem_of_getElem? (i := 1106) (by decide +kernel)) rfl, kx_in (List.mem_of_getElem? (i := 170) (by decide +kernel)) rfl, by decide +kernel, by decide +kernel⟩
set_option maxRecDepth 20000 in
theorem ok_Cloth_eat : kx_mok m_Cloth_eat := ⟨by decide +kernel, kx_in (List.mem_of_getElem? (i := 1111) (by decide +kernel)) rfl, kx_in (List.mem_of_getElem? (i := 183) (by decide +kernel)) rfl, by decide +kernel, by decide +kernel⟩
set_option maxRecDepth 20000 in
theorem ok_KT_darn : kx_mok m_KT_darn := ⟨by decide +kernel, kx_in (List.mem_of_getElem? (i := 1115) (by decide +kernel)) rfl, kx_in (List.mem_of_getElem? (i := 170) (by decide +kernel)) rfl, by decide +kernel, by decide +kernel⟩
set_option maxRecDepth 20000 in
theorem ok_Cloth_patch : kx_mok m_Cloth_patch := ⟨by decide +kernel, kx_in (List.mem_of_getElem? (i := 1119) (by decide +kernel)) rfl, kx_in (List.mem_of_getElem? (i := 183) (by decide +kernel)) rfl, by decide +kernel, by decide +kernel⟩
set_option maxRecDepth 20000 in
theorem ok_KT_knit : kx_mok m_KT_knit := ⟨by decide +kernel, kx_in (List.mem_of_getElem? (i := 1123) (by decide +kernel)) rfl, kx_in (List.mem_of_getElem? (i := 170) (by decide +kernel)) rfl, by decide +kernel, by decide +kernel⟩
set_option maxRecDepth 20000 in
theorem ok_KT_knitStatus : kx_mok m_KT_knitStatus := ⟨by decide +kernel, kx_in (List.mem_of_getElem? (i := 1127) (by decide +kernel)) rfl, kx_in (List.mem_of_getElem? (i := 170) (by decide +kernel)) rfl, by decide +kernel, by decide +kernel⟩
set_option maxRecDepth 20000 in
theorem ok_KT_kindsStatus : kx_mok m_KT_kindsStatus := ⟨by decide +kernel, kx_in (List.mem_of_getElem? (i := 1131) (by decide +kernel)) rfl, kx_in (List.mem_of_getElem? (i := 170) (by decide +kernel)) rfl, by decide +kernel, by decide +kernel⟩
set_option maxRecDepth 20000 in
theorem ok_Tray_within : kx_mok m_Tray_within := ⟨by decide +kernel, kx_in (List.mem_of_getElem? (i := 1136) (by decide +kernel)) rfl, kx_in (List.mem_of_getElem? (i := 185) (by decide +kernel)) rfl, by decide +kernel, by decide +kernel⟩
set_option maxRecDepth 20000 in
theorem ok_Tray_woolOf : kx_mok m_Tray_woolOf := ⟨by decide +kernel, kx_in (List.mem_of_getElem? (i := 1140) (by decide +kernel)) rfl, kx_in (List.mem_of_getElem? (i := 185) (by decide +kernel)) rfl, by decide +kernel, by decide +kernel⟩
set_option maxRecDepth 20000 in
theorem ok_KT_unravel : kx_mok m_KT_unravel := ⟨by decide +kernel, kx_in (List.mem_of_getElem? (i := 1148) (by decide +kernel)) rfl, kx_in (List.mem_of_getElem? (i := 170) (by decide +kernel)) rfl, by decide +kernel, by decide +kernel⟩
set_option maxRecDepth 20000 in
theorem ok_Cloth_woolIn : kx_mok m_Cloth_woolIn := ⟨by decide +kernel, kx_in (List.mem_of_getElem? (i := 1152) (by decide +kernel)) rfl, kx_in (List.mem_of_getElem? (i := 183) (by decide +kernel)) rfl, by decide +kernel, by decide +kernel⟩
set_option maxRecDepth 20000 in
theorem ok_Deal_giveWool : kx_mok m_Deal_giveWool := ⟨by decide +kernel, kx_in (List.mem_of_getElem? (i := 1157) (by decide +kernel)) rfl, kx_in (List.mem_of_getElem? (i := 182) (by decide +kernel)) rfl, by decide +kernel, by decide +kernel⟩
set_option maxRecDepth 20000 in
theorem ok_KT_shear : kx_mok m_KT_shear := ⟨by decide +kernel, kx_in (List.mem_of_getElem? (i := 1162) (by decide +kernel)) rfl, kx_in (List.mem_of_getElem? (i := 170) (by decide +kernel)) rfl, by decide +kernel, by decide +kernel⟩
set_option maxRecDepth 20000 in
theorem ok_KT_rule : kx_mok m_KT_rule := ⟨by decide +kernel, kx_in (List.mem_of_getElem? (i := 1166) (by decide +kernel)) rfl, kx_in (List.mem_of_getElem? (i := 170) (by decide +kernel)) rfl, by decide +kernel, by decide +kernel⟩
set_option maxRecDepth 20000 in
theorem ok_KT_quarrel : kx_mok m_KT_quarrel := ⟨by decide +kernel, kx_in (List.mem_of_getElem? (i := 1170) (by decide +kernel)) rfl, kx_in (List.mem_of_getElem? (i := 170) (by decide +kernel)) rfl, by decide +kernel, by decide +kernel⟩
set_option maxRecDepth 20000 in
theorem ok_Deal_atOdds : kx_mok m_Deal_atOdds := ⟨by decide +kernel, kx_in (List.mem_of_getElem? (i := 1174) (by decide +kernel)) rfl, kx_in (List.mem_of_getElem? (i := 182) (by decide +kernel)) rfl, by decide +kernel, by decide +kernel⟩
set_option maxRecDepth 20000 in
theorem ok_KT_value : kx_mok m_KT_value := ⟨by decide +kernel, kx_in (List.mem_of_getElem? (i := 1179) (by decide +kernel)) rfl, kx_in (List.mem_of_getElem? (i := 170) (by decide +kernel)) rfl, by decide +kernel, by decide +kernel⟩
set_option maxRecDepth 20000 in
theorem ok_KT_saidIn : kx_mok m_KT_saidIn := ⟨by decide +kernel, kx_in (List.mem_of_getElem? (i := 1183) (by decide +kernel)) rfl, kx_in (List.mem_of_getElem? (i := 170) (by decide +kernel)) rfl, by decide +kernel, by decide +kernel⟩
set_option maxRecDepth 20000 in
theorem ok_KT_said : kx_mok m_KT_said := ⟨by decide +kernel, kx_in (List.mem_of_getElem? (i := 1188) (by decide +kernel)) rfl, kx_in (List.mem_of_getElem? (i := 170) (by decide +kernel)) rfl, by decide +kernel, by decide +kernel⟩
set_option maxRecDepth 20000 in
theorem ok_KT_firstSaid : kx_mok m_KT_firstSaid := ⟨by decide +kernel, kx_in (List.mem_of_getElem? (i := 1192) (by decide +kernel)) rfl, kx_in (List.mem_of_getElem? (i := 170) (by decide +kernel)) rfl, by decide +kernel, by decide +kernel⟩
set_option maxRecDepth 20000 in
theorem ok_KT_binds : kx_mok m_KT_binds := ⟨by decide +kernel, kx_in (List.mem_of_getElem? (i := 1197) (by decide +kernel)) rfl, kx_in (List.mem_of_getElem? (i := 170) (by decide +kernel)) rfl, by decide +kernel, by decide +kernel⟩
set_option maxRecDepth 20000 in
theorem ok_KT_boundBy : kx_mok m_KT_boundBy := ⟨by decide +kernel, kx_in (List.mem_of_getElem? (i := 1201) (by decide +kernel)) rfl, kx_in (List.mem_of_getElem? (i := 170) (by decide +kernel)) rfl, by decide +kernel, by decide +kernel⟩
set_option maxRecDepth 20000 in
theorem ok_KT_clashes : kx_mok m_KT_clashes := ⟨by decide +kernel, kx_in (List.mem_of_getElem? (i := 1206) (by decide +kernel)) rfl, kx_in (List.mem_of_getElem? (i := 170) (by decide +kernel)) rfl, by decide +kernel, by decide +kernel⟩
set_option maxRecDepth 20000 in
theorem ok_KT_inSet : kx_mok m_KT_inSet := ⟨by decide +kernel, kx_in (List.mem_of_getElem? (i := 1209) (by decide +kernel)) rfl, kx_in (List.mem_of_getElem? (i := 170) (by decide +kernel)) rfl, by decide +kernel, by decide +kernel⟩
set_option maxRecDepth 20000 in
theorem ok_KT_firstClash : kx_mok m_KT_firstClash := ⟨by decide +kernel, kx_in (List.mem_of_getElem? (i := 1213) (by decide +kernel)) rfl, kx_in (List.mem_of_getElem? (i := 170) (by decide +kernel)) rfl, by decide +kernel, by decide +kernel⟩
set_option maxRecDepth 20000 in
theorem ok_KT_needs : kx_mok m_KT_needs := ⟨by decide +kernel, kx_in (List.mem_of_getElem? (i := 1217) (by decide +kernel)) rfl, kx_in (List.mem_of_getElem? (i := 170) (by decide +kernel)) rfl, by decide +kernel, by decide +kernel⟩
set_option maxRecDepth 20000 in
theorem ok_KT_lost : kx_mok m_KT_lost := ⟨by decide +kernel, kx_in (List.mem_of_getElem? (i := 1221) (by decide +kernel)) rfl, kx_in (List.mem_of_getElem? (i := 170) (by decide +kernel)) rfl, by decide +kernel, by decide +kernel⟩
set_option maxRecDepth 20000 in
theorem ok_KT_tried : kx_mok m_KT_tried := ⟨by decide +kernel, kx_in (List.mem_of_getElem? (i := 1225) (by decide +kernel)) rfl, kx_in (List.mem_of_getElem? (i := 170) (by decide +kernel)) rfl, by decide +kernel, by decide +kernel⟩
set_option maxRecDepth 20000 in
theorem ok_Cloth_copyFrom : kx_mok m_Cloth_copyFrom := ⟨by decide +kernel, kx_in (List.mem_of_getElem? (i := 1229) (by decide +kernel)) rfl, kx_in (List.mem_of_getElem? (i := 183) (by decide +kernel)) rfl, by decide +kernel, by decide +kernel⟩
set_option maxRecDepth 20000 in
theorem ok_Cloth_saysAnywhere : kx_mok m_Cloth_saysAnywhere := ⟨by decide +kernel, kx_in (List.mem_of_getElem? (i := 1234) (by decide +kernel)) rfl, kx_in (List.mem_of_getElem? (i := 183) (by decide +kernel)) rfl, by decide +kernel, by decide +kernel⟩
set_option maxRecDepth 20000 in
theorem ok_KT_undoneIn : kx_mok m_KT_undoneIn := ⟨by decide +kernel, kx_in (List.mem_of_getElem? (i := 1240) (by decide +kernel)) rfl, kx_in (List.mem_of_getElem? (i := 170) (by decide +kernel)) rfl, by decide +kernel, by decide +kernel⟩
set_option maxRecDepth 20000 in
theorem ok_KT_firstLost : kx_mok m_KT_firstLost := ⟨by decide +kernel, kx_in (List.mem_of_getElem? (i := 1244) (by decide +kernel)) rfl, kx_in (List.mem_of_getElem? (i := 170) (by decide +kernel)) rfl, by decide +kernel, by decide +kernel⟩
set_option maxRecDepth 20000 in
theorem ok_KT_pulled : kx_mok m_KT_pulled := ⟨by decide +kernel, kx_in (List.mem_of_getElem? (i := 1248) (by decide +kernel)) rfl, kx_in (List.mem_of_getElem? (i := 170) (by decide +kernel)) rfl, by decide +kernel, by decide +kernel⟩
set_option maxRecDepth 20000 in
theorem ok_KT_worstPull : kx_mok m_KT_worstPull := ⟨by decide +kernel, kx_in (List.mem_of_getElem? (i := 1252) (by decide +kernel)) rfl, kx_in (List.mem_of_getElem? (i := 170) (by decide +kernel)) rfl, by decide +kernel, by decide +kernel⟩
set_option maxRecDepth 20000 in
theorem ok_KT_pulledOut : kx_mok m_KT_pulledOut := ⟨by decide +kernel, kx_in (List.mem_of_getElem? (i := 1256) (by decide +kernel)) rfl, kx_in (List.mem_of_getElem? (i := 170) (by decide +kernel)) rfl, by decide +kernel, by decide +kernel⟩
set_option maxRecDepth 20000 in
theorem ok_KT_mend : kx_mok m_KT_mend := ⟨by decide +kernel, kx_in (List.mem_of_getElem? (i := 1260) (by decide +kernel)) rfl, kx_in (List.mem_of_getElem? (i := 170) (by decide +kernel)) rfl, by decide +kernel, by decide +kernel⟩
set_option maxRecDepth 20000 in
theorem ok_KT_mendingSet : kx_mok m_KT_mendingSet := ⟨by decide +kernel, kx_in (List.mem_of_getElem? (i := 1264) (by decide +kernel)) rfl, kx_in (List.mem_of_getElem? (i := 170) (by decide +kernel)) rfl, by decide +kernel, by decide +kernel⟩
set_option maxRecDepth 20000 in
theorem ok_Int_bitCount : kx_mok m_Int_bitCount := ⟨by decide +kernel, kx_in (List.mem_of_getElem? (i := 1267) (by decide +kernel)) rfl, kx_in (List.mem_of_getElem? (i := 190) (by decide +kernel)) rfl, by decide +kernel, by decide +kernel⟩
set_option maxRecDepth 20000 in
theorem ok_KT_staysBy : kx_mok m_KT_staysBy := ⟨by decide +kernel, kx_in (List.mem_of_getElem? (i := 1274) (by decide +kernel)) rfl, kx_in (List.mem_of_getElem? (i := 170) (by decide +kernel)) rfl, by decide +kernel, by decide +kernel⟩
set_option maxRecDepth 20000 in
theorem ok_KT_mendSet : kx_mok m_KT_mendSet := ⟨by decide +kernel, kx_in (List.mem_of_getElem? (i := 1278) (by decide +kernel)) rfl, kx_in (List.mem_of_getElem? (i := 170) (by decide +kernel)) rfl, by decide +kernel, by decide +kernel⟩
set_option maxRecDepth 20000 in
theorem ok_KT_shortest : kx_mok m_KT_shortest := ⟨by decide +kernel, kx_in (List.mem_of_getElem? (i := 1282) (by decide +kernel)) rfl, kx_in (List.mem_of_getElem? (i := 170) (by decide +kernel)) rfl, by decide +kernel, by decide +kernel⟩
set_option maxRecDepth 20000 in
theorem ok_KT_noSet : kx_mok m_KT_noSet := ⟨by decide +kernel, kx_in (List.mem_of_getElem? (i := 1286) (by decide +kernel)) rfl, kx_in (List.mem_of_getElem? (i := 170) (by decide +kernel)) rfl, by decide +kernel, by decide +kernel⟩
set_option maxRecDepth 20000 in
theorem ok_Joiner_join : kx_mok m_Joiner_join := ⟨by decide +kernel, kx_in (List.mem_of_getElem? (i := 1290) (by decide +kernel)) rfl, kx_in (List.mem_of_getElem? (i := 179) (by decide +kernel)) rfl, by decide +kernel, by decide +kernel⟩
set_option maxRecDepth 20000 in
theorem ok_Joiner_gather : kx_mok m_Joiner_gather := ⟨by decide +kernel, kx_in (List.mem_of_getElem? (i := 1294) (by decide +kernel)) rfl, kx_in (List.mem_of_getElem? (i := 179) (by decide +kernel)) rfl, by decide +kernel, by decide +kernel⟩
set_option maxRecDepth 20000 in
theorem ok_Joiner_standsInOther : kx_mok m_Joiner_standsInOther := ⟨by decide +kernel, kx_in (List.mem_of_getElem? (i := 1298) (by decide +kernel)) rfl, kx_in (List.mem_of_getElem? (i := 179) (by decide +kernel)) rfl, by decide +kernel, by decide +kernel⟩
set_option maxRecDepth 20000 in
theorem ok_Deal_runOf : kx_mok m_Deal_runOf := ⟨by decide +kernel, kx_in (List.mem_of_getElem? (i := 1302) (by decide +kernel)) rfl, kx_in (List.mem_of_getElem? (i := 182) (by decide +kernel)) rfl, by decide +kernel, by decide +kernel⟩
set_option maxRecDepth 20000 in
theorem ok_Joiner_lowest : kx_mok m_Joiner_lowest := ⟨by decide +kernel, kx_in (List.mem_of_getElem? (i := 1305) (by decide +kernel)) rfl, kx_in (List.mem_of_getElem? (i := 179) (by decide +kernel)) rfl, by decide +kernel, by decide +kernel⟩
set_option maxRecDepth 20000 in
theorem ok_Joiner_offer : kx_mok m_Joiner_offer := ⟨by decide +kernel, kx_in (List.mem_of_getElem? (i := 1310) (by decide +kernel)) rfl, kx_in (List.mem_of_getElem? (i := 179) (by decide +kernel)) rfl, by decide +kernel, by decide +kernel⟩
set_option maxRecDepth 20000 in
theorem ok_Joiner_extend : kx_mok m_Joiner_extend := ⟨by decide +kernel, kx_in (List.mem_of_getElem? (i := 1314) (by decide +kernel)) rfl, kx_in (List.mem_of_getElem? (i := 179) (by decide +kernel)) rfl, by decide +kernel, by decide +kernel⟩
set_option maxRecDepth 20000 in
theorem ok_Joiner_overlap : kx_mok m_Joiner_overlap := ⟨by decide +kernel, kx_in (List.mem_of_getElem? (i := 1318) (by decide +kernel)) rfl, kx_in (List.mem_of_getElem? (i := 179) (by decide +kernel)) rfl, by decide +kernel, by decide +kernel⟩
set_option maxRecDepth 20000 in
theorem ok_Joiner_choose : kx_mok m_Joiner_choose := ⟨by decide +kernel, kx_in (List.mem_of_getElem? (i := 1323) (by decide +kernel)) rfl, kx_in (List.mem_of_getElem? (i := 179) (by decide +kernel)) rfl, by decide +kernel, by decide +kernel⟩
set_option maxRecDepth 20000 in
theorem ok_KT_shortestAt : kx_mok m_KT_shortestAt := ⟨by decide +kernel, kx_in (List.mem_of_getElem? (i := 1327) (by decide +kernel)) rfl, kx_in (List.mem_of_getElem? (i := 170) (by decide +kernel)) rfl, by decide +kernel, by decide +kernel⟩
set_option maxRecDepth 20000 in
theorem ok_KT_wins : kx_mok m_KT_wins := ⟨by decide +kernel, kx_in (List.mem_of_getElem? (i := 1331) (by decide +kernel)) rfl, kx_in (List.mem_of_getElem? (i := 170) (by decide +kernel)) rfl, by decide +kernel, by decide +kernel⟩
set_option maxRecDepth 20000 in
theorem ok_Deal_winOf : kx_mok m_Deal_winOf := ⟨by decide +kernel, kx_in (List.mem_of_getElem? (i := 1335) (by decide +kernel)) rfl, kx_in (List.mem_of_getElem? (i := 182) (by decide +kernel)) rfl, by decide +kernel, by decide +kernel⟩
set_option maxRecDepth 20000 in
theorem ok_Deal_winOfOne : kx_mok m_Deal_winOfOne := ⟨by decide +kernel, kx_in (List.mem_of_getElem? (i := 1340) (by decide +kernel)) rfl, kx_in (List.mem_of_getElem? (i := 182) (by decide +kernel)) rfl, by decide +kernel, by decide +kernel⟩
set_option maxRecDepth 20000 in
theorem ok_KT_bargain : kx_mok m_KT_bargain := ⟨by decide +kernel, kx_in (List.mem_of_getElem? (i := 1345) (by decide +kernel)) rfl, kx_in (List.mem_of_getElem? (i := 170) (by decide +kernel)) rfl, by decide +kernel, by decide +kernel⟩
set_option maxRecDepth 20000 in
theorem ok_Deal_bestSet : kx_mok m_Deal_bestSet := ⟨by decide +kernel, kx_in (List.mem_of_getElem? (i := 1349) (by decide +kernel)) rfl, kx_in (List.mem_of_getElem? (i := 182) (by decide +kernel)) rfl, by decide +kernel, by decide +kernel⟩
set_option maxRecDepth 20000 in
theorem ok_Deal_winOfAll : kx_mok m_Deal_winOfAll := ⟨by decide +kernel, kx_in (List.mem_of_getElem? (i := 1353) (by decide +kernel)) rfl, kx_in (List.mem_of_getElem? (i := 182) (by decide +kernel)) rfl, by decide +kernel, by decide +kernel⟩
set_option maxRecDepth 20000 in
theorem ok_Deal_signable : kx_mok m_Deal_signable := ⟨by decide +kernel, kx_in (List.mem_of_getElem? (i := 1358) (by decide +kernel)) rfl, kx_in (List.mem_of_getElem? (i := 182) (by decide +kernel)) rfl, by decide +kernel, by decide +kernel⟩
set_option maxRecDepth 20000 in
theorem ok_KT_bargainWorth : kx_mok m_KT_bargainWorth := ⟨by decide +kernel, kx_in (List.mem_of_getElem? (i := 1363) (by decide +kernel)) rfl, kx_in (List.mem_of_getElem? (i := 170) (by decide +kernel)) rfl, by decide +kernel, by decide +kernel⟩
set_option maxRecDepth 20000 in
theorem ok_KT_stable : kx_mok m_KT_stable := ⟨by decide +kernel, kx_in (List.mem_of_getElem? (i := 1368) (by decide +kernel)) rfl, kx_in (List.mem_of_getElem? (i := 170) (by decide +kernel)) rfl, by decide +kernel, by decide +kernel⟩
set_option maxRecDepth 20000 in
theorem ok_Deal_holdsFast : kx_mok m_Deal_holdsFast := ⟨by decide +kernel, kx_in (List.mem_of_getElem? (i := 1372) (by decide +kernel)) rfl, kx_in (List.mem_of_getElem? (i := 182) (by decide +kernel)) rfl, by decide +kernel, by decide +kernel⟩
set_option maxRecDepth 20000 in
theorem ok_KT_stables : kx_mok m_KT_stables := ⟨by decide +kernel, kx_in (List.mem_of_getElem? (i := 1376) (by decide +kernel)) rfl, kx_in (List.mem_of_getElem? (i := 170) (by decide +kernel)) rfl, by decide +kernel, by decide +kernel⟩
set_option maxRecDepth 20000 in
theorem ok_KT_fills : kx_mok m_KT_fills := ⟨by decide +kernel, kx_in (List.mem_of_getElem? (i := 1380) (by decide +kernel)) rfl, kx_in (List.mem_of_getElem? (i := 170) (by decide +kernel)) rfl, by decide +kernel, by decide +kernel⟩
set_option maxRecDepth 20000 in
theorem ok_KT_seenStatus : kx_mok m_KT_seenStatus := ⟨by decide +kernel, kx_in (List.mem_of_getElem? (i := 1384) (by decide +kernel)) rfl, kx_in (List.mem_of_getElem? (i := 170) (by decide +kernel)) rfl, by decide +kernel, by decide +kernel⟩
set_option maxRecDepth 20000 in
theorem ok_KT_lookAt : kx_mok m_KT_lookAt := ⟨by decide +kernel, kx_in (List.mem_of_getElem? (i := 1388) (by decide +kernel)) rfl, kx_in (List.mem_of_getElem? (i := 170) (by decide +kernel)) rfl, by decide +kernel, by decide +kernel⟩
set_option maxRecDepth 20000 in
theorem ok_Seen_learn : kx_mok m_Seen_learn := ⟨by decide +kernel, kx_in (List.mem_of_getElem? (i := 1392) (by decide +kernel)) rfl, kx_in (List.mem_of_getElem? (i := 178) (by decide +kernel)) rfl, by decide +kernel, by decide +kernel⟩
set_option maxRecDepth 20000 in
theorem ok_Seen_firstOf : kx_mok m_Seen_firstOf := ⟨by decide +kernel, kx_in (List.mem_of_getElem? (i := 1397) (by decide +kernel)) rfl, kx_in (List.mem_of_getElem? (i := 178) (by decide +kernel)) rfl, by decide +kernel, by decide +kernel⟩
set_option maxRecDepth 20000 in
theorem ok_Seen_lowest : kx_mok m_Seen_lowest := ⟨by decide +kernel, kx_in (List.mem_of_getElem? (i := 1400) (by decide +kernel)) rfl, kx_in (List.mem_of_getElem? (i := 178) (by decide +kernel)) rfl, by decide +kernel, by decide +kernel⟩
set_option maxRecDepth 20000 in
theorem ok_Seen_count : kx_mok m_Seen_count := ⟨by decide +kernel, kx_in (List.mem_of_getElem? (i := 1404) (by decide +kernel)) rfl, kx_in (List.mem_of_getElem? (i := 178) (by decide +kernel)) rfl, by decide +kernel, by decide +kernel⟩
set_option maxRecDepth 20000 in
theorem ok_Seen_passColumn : kx_mok m_Seen_passColumn := ⟨by decide +kernel, kx_in (List.mem_of_getElem? (i := 1409) (by decide +kernel)) rfl, kx_in (List.mem_of_getElem? (i := 178) (by decide +kernel)) rfl, by decide +kernel, by decide +kernel⟩
set_option maxRecDepth 20000 in
theorem ok_KT_chance : kx_mok m_KT_chance := ⟨by decide +kernel, kx_in (List.mem_of_getElem? (i := 1413) (by decide +kernel)) rfl, kx_in (List.mem_of_getElem? (i := 170) (by decide +kernel)) rfl, by decide +kernel, by decide +kernel⟩
set_option maxRecDepth 20000 in
theorem ok_Seen_unknown : kx_mok m_Seen_unknown := ⟨by decide +kernel, kx_in (List.mem_of_getElem? (i := 1417) (by decide +kernel)) rfl, kx_in (List.mem_of_getElem? (i := 178) (by decide +kernel)) rfl, by decide +kernel, by decide +kernel⟩
set_option maxRecDepth 20000 in
theorem ok_KT_tellFraction : kx_mok m_KT_tellFraction := ⟨by decide +kernel, kx_in (List.mem_of_getElem? (i := 1421) (by decide +kernel)) rfl, kx_in (List.mem_of_getElem? (i := 170) (by decide +kernel)) rfl, by decide +kernel, by decide +kernel⟩
set_option maxRecDepth 20000 in
theorem ok_KT_look : kx_mok m_KT_look := ⟨by decide +kernel, kx_in (List.mem_of_getElem? (i := 1425) (by decide +kernel)) rfl, kx_in (List.mem_of_getElem? (i := 170) (by decide +kernel)) rfl, by decide +kernel, by decide +kernel⟩
set_option maxRecDepth 20000 in
theorem ok_Seen_bestColumn : kx_mok m_Seen_bestColumn := ⟨by decide +kernel, kx_in (List.mem_of_getElem? (i := 1429) (by decide +kernel)) rfl, kx_in (List.mem_of_getElem? (i := 178) (by decide +kernel)) rfl, by decide +kernel, by decide +kernel⟩
set_option maxRecDepth 20000 in
theorem ok_Seen_countWith : kx_mok m_Seen_countWith := ⟨by decide +kernel, kx_in (List.mem_of_getElem? (i := 1434) (by decide +kernel)) rfl, kx_in (List.mem_of_getElem? (i := 178) (by decide +kernel)) rfl, by decide +kernel, by decide +kernel⟩
set_option maxRecDepth 20000 in
theorem ok_KT_sure : kx_mok m_KT_sure := ⟨by decide +kernel, kx_in (List.mem_of_getElem? (i := 1442) (by decide +kernel)) rfl, kx_in (List.mem_of_getElem? (i := 170) (by decide +kernel)) rfl, by decide +kernel, by decide +kernel⟩
set_option maxRecDepth 20000 in
theorem ok_Seen_onlyKind : kx_mok m_Seen_onlyKind := ⟨by decide +kernel, kx_in (List.mem_of_getElem? (i := 1446) (by decide +kernel)) rfl, kx_in (List.mem_of_getElem? (i := 178) (by decide +kernel)) rfl, by decide +kernel, by decide +kernel⟩
set_option maxRecDepth 20000 in
theorem ok_KT_live : kx_mok m_KT_live := ⟨by decide +kernel, kx_in (List.mem_of_getElem? (i := 1450) (by decide +kernel)) rfl, kx_in (List.mem_of_getElem? (i := 170) (by decide +kernel)) rfl, by decide +kernel, by decide +kernel⟩
set_option maxRecDepth 20000 in
theorem ok_Life_run : kx_mok m_Life_run := ⟨by decide +kernel, kx_in (List.mem_of_getElem? (i := 1454) (by decide +kernel)) rfl, kx_in (List.mem_of_getElem? (i := 180) (by decide +kernel)) rfl, by decide +kernel, by decide +kernel⟩
set_option maxRecDepth 20000 in
theorem ok_Life_behindEnd : kx_mok m_Life_behindEnd := ⟨by decide +kernel, kx_in (List.mem_of_getElem? (i := 1459) (by decide +kernel)) rfl, kx_in (List.mem_of_getElem? (i := 180) (by decide +kernel)) rfl, by decide +kernel, by decide +kernel⟩
set_option maxRecDepth 20000 in
theorem ok_Life_act : kx_mok m_Life_act := ⟨by decide +kernel, kx_in (List.mem_of_getElem? (i := 1463) (by decide +kernel)) rfl, kx_in (List.mem_of_getElem? (i := 180) (by decide +kernel)) rfl, by decide +kernel, by decide +kernel⟩
set_option maxRecDepth 20000 in
theorem ok_Life_came : kx_mok m_Life_came := ⟨by decide +kernel, kx_in (List.mem_of_getElem? (i := 1469) (by decide +kernel)) rfl, kx_in (List.mem_of_getElem? (i := 180) (by decide +kernel)) rfl, by decide +kernel, by decide +kernel⟩
set_option maxRecDepth 20000 in
theorem ok_Life_patchOne : kx_mok m_Life_patchOne := ⟨by decide +kernel, kx_in (List.mem_of_getElem? (i := 1474) (by decide +kernel)) rfl, kx_in (List.mem_of_getElem? (i := 180) (by decide +kernel)) rfl, by decide +kernel, by decide +kernel⟩
set_option maxRecDepth 20000 in
theorem ok_Life_anyMoth : kx_mok m_Life_anyMoth := ⟨by decide +kernel, kx_in (List.mem_of_getElem? (i := 1479) (by decide +kernel)) rfl, kx_in (List.mem_of_getElem? (i := 180) (by decide +kernel)) rfl, by decide +kernel, by decide +kernel⟩
set_option maxRecDepth 20000 in
theorem ok_Life_draw : kx_mok m_Life_draw := ⟨by decide +kernel, kx_in (List.mem_of_getElem? (i := 1483) (by decide +kernel)) rfl, kx_in (List.mem_of_getElem? (i := 180) (by decide +kernel)) rfl, by decide +kernel, by decide +kernel⟩
set_option maxRecDepth 20000 in
theorem ok_Life_behindStep : kx_mok m_Life_behindStep := ⟨by decide +kernel, kx_in (List.mem_of_getElem? (i := 1488) (by decide +kernel)) rfl, kx_in (List.mem_of_getElem? (i := 180) (by decide +kernel)) rfl, by decide +kernel, by decide +kernel⟩
set_option maxRecDepth 20000 in
theorem ok_Cloth_wholeRow : kx_mok m_Cloth_wholeRow := ⟨by decide +kernel, kx_in (List.mem_of_getElem? (i := 1493) (by decide +kernel)) rfl, kx_in (List.mem_of_getElem? (i := 183) (by decide +kernel)) rfl, by decide +kernel, by decide +kernel⟩
set_option maxRecDepth 20000 in
theorem ok_Life_compares : kx_mok m_Life_compares := ⟨by decide +kernel, kx_in (List.mem_of_getElem? (i := 1497) (by decide +kernel)) rfl, kx_in (List.mem_of_getElem? (i := 180) (by decide +kernel)) rfl, by decide +kernel, by decide +kernel⟩
set_option maxRecDepth 20000 in
theorem ok_KT_lived : kx_mok m_KT_lived := ⟨by decide +kernel, kx_in (List.mem_of_getElem? (i := 1501) (by decide +kernel)) rfl, kx_in (List.mem_of_getElem? (i := 170) (by decide +kernel)) rfl, by decide +kernel, by decide +kernel⟩
set_option maxRecDepth 20000 in
theorem ok_KT_mean : kx_mok m_KT_mean := ⟨by decide +kernel, kx_in (List.mem_of_getElem? (i := 1505) (by decide +kernel)) rfl, kx_in (List.mem_of_getElem? (i := 170) (by decide +kernel)) rfl, by decide +kernel, by decide +kernel⟩
set_option maxRecDepth 20000 in
theorem ok_KT_mark : kx_mok m_KT_mark := ⟨by decide +kernel, kx_in (List.mem_of_getElem? (i := 1509) (by decide +kernel)) rfl, kx_in (List.mem_of_getElem? (i := 170) (by decide +kernel)) rfl, by decide +kernel, by decide +kernel⟩
set_option maxRecDepth 20000 in
theorem ok_State_copyFrom : kx_mok m_State_copyFrom := ⟨by decide +kernel, kx_in (List.mem_of_getElem? (i := 1513) (by decide +kernel)) rfl, kx_in (List.mem_of_getElem? (i := 181) (by decide +kernel)) rfl, by decide +kernel, by decide +kernel⟩
set_option maxRecDepth 20000 in
theorem ok_Deal_copyFrom : kx_mok m_Deal_copyFrom := ⟨by decide +kernel, kx_in (List.mem_of_getElem? (i := 1517) (by decide +kernel)) rfl, kx_in (List.mem_of_getElem? (i := 182) (by decide +kernel)) rfl, by decide +kernel, by decide +kernel⟩
set_option maxRecDepth 20000 in
theorem ok_KT_back : kx_mok m_KT_back := ⟨by decide +kernel, kx_in (List.mem_of_getElem? (i := 1524) (by decide +kernel)) rfl, kx_in (List.mem_of_getElem? (i := 170) (by decide +kernel)) rfl, by decide +kernel, by decide +kernel⟩
set_option maxRecDepth 20000 in
theorem ok_RM_init : kx_mok m_RM_init := ⟨by decide +kernel, kx_in (List.mem_of_getElem? (i := 1529) (by decide +kernel)) rfl, kx_in (List.mem_of_getElem? (i := 186) (by decide +kernel)) rfl, by decide +kernel, by decide +kernel⟩
set_option maxRecDepth 20000 in
theorem ok_RM_status : kx_mok m_RM_status := ⟨by decide +kernel, kx_in (List.mem_of_getElem? (i := 1670) (by decide +kernel)) rfl, kx_in (List.mem_of_getElem? (i := 186) (by decide +kernel)) rfl, by decide +kernel, by decide +kernel⟩
set_option maxRecDepth 20000 in
theorem ok_RM_top : kx_mok m_RM_top := ⟨by decide +kernel, kx_in (List.mem_of_getElem? (i := 1674) (by decide +kernel)) rfl, kx_in (List.mem_of_getElem? (i := 186) (by decide +kernel)) rfl, by decide +kernel, by decide +kernel⟩
set_option maxRecDepth 20000 in
theorem ok_RM_bottom : kx_mok m_RM_bottom := ⟨by decide +kernel, kx_in (List.mem_of_getElem? (i := 1678) (by decide +kernel)) rfl, kx_in (List.mem_of_getElem? (i := 186) (by decide +kernel)) rfl, by decide +kernel, by decide +kernel⟩
set_option maxRecDepth 20000 in
theorem ok_RM_tray : kx_mok m_RM_tray := ⟨by decide +kernel, kx_in (List.mem_of_getElem? (i := 1682) (by decide +kernel)) rfl, kx_in (List.mem_of_getElem? (i := 186) (by decide +kernel)) rfl, by decide +kernel, by decide +kernel⟩
set_option maxRecDepth 20000 in
theorem ok_RM_no : kx_mok m_RM_no := ⟨by decide +kernel, kx_in (List.mem_of_getElem? (i := 1686) (by decide +kernel)) rfl, kx_in (List.mem_of_getElem? (i := 186) (by decide +kernel)) rfl, by decide +kernel, by decide +kernel⟩
set_option maxRecDepth 20000 in
theorem ok_RM_write : kx_mok m_RM_write := ⟨by decide +kernel, kx_in (List.mem_of_getElem? (i := 1690) (by decide +kernel)) rfl, kx_in (List.mem_of_getElem? (i := 186) (by decide +kernel)) rfl, by decide +kernel, by decide +kernel⟩
set_option maxRecDepth 20000 in
theorem ok_RM_placed : kx_mok m_RM_placed := ⟨by decide +kernel, kx_in (List.mem_of_getElem? (i := 1694) (by decide +kernel)) rfl, kx_in (List.mem_of_getElem? (i := 186) (by decide +kernel)) rfl, by decide +kernel, by decide +kernel⟩
set_option maxRecDepth 20000 in
theorem ok_RM_trayed : kx_mok m_RM_trayed := ⟨by decide +kernel, kx_in (List.mem_of_getElem? (i := 1698) (by decide +kernel)) rfl, kx_in (List.mem_of_getElem? (i := 186) (by decide +kernel)) rfl, by decide +kernel, by decide +kernel⟩
set_option maxRecDepth 20000 in
theorem ok_RM_cut : kx_mok m_RM_cut := ⟨by decide +kernel, kx_in (List.mem_of_getElem? (i := 1701) (by decide +kernel)) rfl, kx_in (List.mem_of_getElem? (i := 186) (by decide +kernel)) rfl, by decide +kernel, by decide +kernel⟩
set_option maxRecDepth 20000 in
theorem ok_RM_read : kx_mok m_RM_read := ⟨by decide +kernel, kx_in (List.mem_of_getElem? (i := 1705) (by decide +kernel)) rfl, kx_in (List.mem_of_getElem? (i := 186) (by decide +kernel)) rfl, by decide +kernel, by decide +kernel⟩
set_option maxRecDepth 20000 in
theorem ok_RM_pour : kx_mok m_RM_pour := ⟨by decide +kernel, kx_in (List.mem_of_getElem? (i := 1710) (by decide +kernel)) rfl, kx_in (List.mem_of_getElem? (i := 186) (by decide +kernel)) rfl, by decide +kernel, by decide +kernel⟩
set_option maxRecDepth 20000 in
theorem ok_RM_feed : kx_mok m_RM_feed := ⟨by decide +kernel, kx_in (List.mem_of_getElem? (i := 1714) (by decide +kernel)) rfl, kx_in (List.mem_of_getElem? (i := 186) (by decide +kernel)) rfl, by decide +kernel, by decide +kernel⟩
set_option maxRecDepth 20000 in
theorem ok_RM_lay : kx_mok m_RM_lay := ⟨by decide +kernel, kx_in (List.mem_of_getElem? (i := 1718) (by decide +kernel)) rfl, kx_in (List.mem_of_getElem? (i := 186) (by decide +kernel)) rfl, by decide +kernel, by decide +kernel⟩
set_option maxRecDepth 20000 in
theorem ok_RM_fault : kx_mok m_RM_fault := ⟨by decide +kernel, kx_in (List.mem_of_getElem? (i := 1722) (by decide +kernel)) rfl, kx_in (List.mem_of_getElem? (i := 186) (by decide +kernel)) rfl, by decide +kernel, by decide +kernel⟩
set_option maxRecDepth 20000 in
theorem ok_RM_treaty : kx_mok m_RM_treaty := ⟨by decide +kernel, kx_in (List.mem_of_getElem? (i := 1726) (by decide +kernel)) rfl, kx_in (List.mem_of_getElem? (i := 186) (by decide +kernel)) rfl, by decide +kernel, by decide +kernel⟩
set_option maxRecDepth 20000 in
theorem ok_RM_starts : kx_mok m_RM_starts := ⟨by decide +kernel, kx_in (List.mem_of_getElem? (i := 1730) (by decide +kernel)) rfl, kx_in (List.mem_of_getElem? (i := 186) (by decide +kernel)) rfl, by decide +kernel, by decide +kernel⟩
set_option maxRecDepth 20000 in
theorem ok_RM_advance : kx_mok m_RM_advance := ⟨by decide +kernel, kx_in (List.mem_of_getElem? (i := 1734) (by decide +kernel)) rfl, kx_in (List.mem_of_getElem? (i := 186) (by decide +kernel)) rfl, by decide +kernel, by decide +kernel⟩
set_option maxRecDepth 20000 in
theorem ok_RM_look2 : kx_mok m_RM_look2 := ⟨by decide +kernel, kx_in (List.mem_of_getElem? (i := 1738) (by decide +kernel)) rfl, kx_in (List.mem_of_getElem? (i := 186) (by decide +kernel)) rfl, by decide +kernel, by decide +kernel⟩
set_option maxRecDepth 20000 in
theorem ok_RM_isLetter : kx_mok m_RM_isLetter := ⟨by decide +kernel, kx_in (List.mem_of_getElem? (i := 1741) (by decide +kernel)) rfl, kx_in (List.mem_of_getElem? (i := 186) (by decide +kernel)) rfl, by decide +kernel, by decide +kernel⟩
set_option maxRecDepth 20000 in
theorem ok_RM_isDigit : kx_mok m_RM_isDigit := ⟨by decide +kernel, kx_in (List.mem_of_getElem? (i := 1746) (by decide +kernel)) rfl, kx_in (List.mem_of_getElem? (i := 186) (by decide +kernel)) rfl, by decide +kernel, by decide +kernel⟩
set_option maxRecDepth 20000 in
theorem ok_RM_isSignByte : kx_mok m_RM_isSignByte := ⟨by decide +kernel, kx_in (List.mem_of_getElem? (i := 1750) (by decide +kernel)) rfl, kx_in (List.mem_of_getElem? (i := 186) (by decide +kernel)) rfl, by decide +kernel, by decide +kernel⟩
set_option maxRecDepth 20000 in
theorem ok_RM_readPart : kx_mok m_RM_readPart := ⟨by decide +kernel, kx_in (List.mem_of_getElem? (i := 1754) (by decide +kernel)) rfl, kx_in (List.mem_of_getElem? (i := 186) (by decide +kernel)) rfl, by decide +kernel, by decide +kernel⟩
set_option maxRecDepth 20000 in
theorem ok_RM_isWide : kx_mok m_RM_isWide := ⟨by decide +kernel, kx_in (List.mem_of_getElem? (i := 1758) (by decide +kernel)) rfl, kx_in (List.mem_of_getElem? (i := 186) (by decide +kernel)) rfl, by decide +kernel, by decide +kernel⟩
set_option maxRecDepth 20000 in
theorem ok_RM_spelled : kx_mok m_RM_spelled := ⟨by decide +kernel, kx_in (List.mem_of_getElem? (i := 1761) (by decide +kernel)) rfl, kx_in (List.mem_of_getElem? (i := 186) (by decide +kernel)) rfl, by decide +kernel, by decide +kernel⟩
set_option maxRecDepth 20000 in
theorem ok_RM_isWord : kx_mok m_RM_isWord := ⟨by decide +kernel, kx_in (List.mem_of_getElem? (i := 1765) (by decide +kernel)) rfl, kx_in (List.mem_of_getElem? (i := 186) (by decide +kernel)) rfl, by decide +kernel, by decide +kernel⟩
set_option maxRecDepth 20000 in
theorem ok_RM_readOnce : kx_mok m_RM_readOnce := ⟨by decide +kernel, kx_in (List.mem_of_getElem? (i := 1769) (by decide +kernel)) rfl, kx_in (List.mem_of_getElem? (i := 186) (by decide +kernel)) rfl, by decide +kernel, by decide +kernel⟩
set_option maxRecDepth 20000 in
theorem ok_RM_amiss : kx_mok m_RM_amiss := ⟨by decide +kernel, kx_in (List.mem_of_getElem? (i := 1773) (by decide +kernel)) rfl, kx_in (List.mem_of_getElem? (i := 186) (by decide +kernel)) rfl, by decide +kernel, by decide +kernel⟩
set_option maxRecDepth 20000 in
theorem ok_RM_fail : kx_mok m_RM_fail := ⟨by decide +kernel, kx_in (List.mem_of_getElem? (i := 1777) (by decide +kernel)) rfl, kx_in (List.mem_of_getElem? (i := 186) (by decide +kernel)) rfl, by decide +kernel, by decide +kernel⟩
set_option maxRecDepth 20000 in
theorem ok_RM_has : kx_mok m_RM_has := ⟨by decide +kernel, kx_in (List.mem_of_getElem? (i := 1780) (by decide +kernel)) rfl, kx_in (List.mem_of_getElem? (i := 186) (by decide +kernel)) rfl, by decide +kernel, by decide +kernel⟩
set_option maxRecDepth 20000 in
theorem ok_RM_count : kx_mok m_RM_count := ⟨by decide +kernel, kx_in (List.mem_of_getElem? (i := 1784) (by decide +kernel)) rfl, kx_in (List.mem_of_getElem? (i := 186) (by decide +kernel)) rfl, by decide +kernel, by decide +kernel⟩
set_option maxRecDepth 20000 in
theorem ok_RM_isIn : kx_mok m_RM_isIn := ⟨by decide +kernel, kx_in (List.mem_of_getElem? (i := 1787) (by decide +kernel)) rfl, kx_in (List.mem_of_getElem? (i := 186) (by decide +kernel)) rfl, by decide +kernel, by decide +kernel⟩
set_option maxRecDepth 20000 in
theorem ok_RM_isTough : kx_mok m_RM_isTough := ⟨by decide +kernel, kx_in (List.mem_of_getElem? (i := 1791) (by decide +kernel)) rfl, kx_in (List.mem_of_getElem? (i := 186) (by decide +kernel)) rfl, by decide +kernel, by decide +kernel⟩
set_option maxRecDepth 20000 in
theorem ok_RM_isQueen : kx_mok m_RM_isQueen := ⟨by decide +kernel, kx_in (List.mem_of_getElem? (i := 1795) (by decide +kernel)) rfl, kx_in (List.mem_of_getElem? (i := 186) (by decide +kernel)) rfl, by decide +kernel, by decide +kernel⟩
set_option maxRecDepth 20000 in
theorem ok_RM_readQueen : kx_mok m_RM_readQueen := ⟨by decide +kernel, kx_in (List.mem_of_getElem? (i := 1799) (by decide +kernel)) rfl, kx_in (List.mem_of_getElem? (i := 186) (by decide +kernel)) rfl, by decide +kernel, by decide +kernel⟩
set_option maxRecDepth 20000 in
theorem ok_RM_readNew : kx_mok m_RM_readNew := ⟨by decide +kernel, kx_in (List.mem_of_getElem? (i := 1803) (by decide +kernel)) rfl, kx_in (List.mem_of_getElem? (i := 186) (by decide +kernel)) rfl, by decide +kernel, by decide +kernel⟩
set_option maxRecDepth 20000 in
theorem ok_RM_isName : kx_mok m_RM_isName := ⟨by decide +kernel, kx_in (List.mem_of_getElem? (i := 1807) (by decide +kernel)) rfl, kx_in (List.mem_of_getElem? (i := 186) (by decide +kernel)) rfl, by decide +kernel, by decide +kernel⟩
set_option maxRecDepth 20000 in
theorem ok_RM_isKept : kx_mok m_RM_isKept := ⟨by decide +kernel, kx_in (List.mem_of_getElem? (i := 1811) (by decide +kernel)) rfl, kx_in (List.mem_of_getElem? (i := 186) (by decide +kernel)) rfl, by decide +kernel, by decide +kernel⟩
set_option maxRecDepth 20000 in
theorem ok_RM_isWool : kx_mok m_RM_isWool := ⟨by decide +kernel, kx_in (List.mem_of_getElem? (i := 1815) (by decide +kernel)) rfl, kx_in (List.mem_of_getElem? (i := 186) (by decide +kernel)) rfl, by decide +kernel, by decide +kernel⟩
set_option maxRecDepth 20000 in
theorem ok_RM_isClause : kx_mok m_RM_isClause := ⟨by decide +kernel, kx_in (List.mem_of_getElem? (i := 1819) (by decide +kernel)) rfl, kx_in (List.mem_of_getElem? (i := 186) (by decide +kernel)) rfl, by decide +kernel, by decide +kernel⟩
set_option maxRecDepth 20000 in
theorem ok_RM_isIs : kx_mok m_RM_isIs := ⟨by decide +kernel, kx_in (List.mem_of_getElem? (i := 1823) (by decide +kernel)) rfl, kx_in (List.mem_of_getElem? (i := 186) (by decide +kernel)) rfl, by decide +kernel, by decide +kernel⟩
set_option maxRecDepth 20000 in
theorem ok_RM_isClash : kx_mok m_RM_isClash := ⟨by decide +kernel, kx_in (List.mem_of_getElem? (i := 1827) (by decide +kernel)) rfl, kx_in (List.mem_of_getElem? (i := 186) (by decide +kernel)) rfl, by decide +kernel, by decide +kernel⟩
set_option maxRecDepth 20000 in
theorem ok_RM_isGives : kx_mok m_RM_isGives := ⟨by decide +kernel, kx_in (List.mem_of_getElem? (i := 1831) (by decide +kernel)) rfl, kx_in (List.mem_of_getElem? (i := 186) (by decide +kernel)) rfl, by decide +kernel, by decide +kernel⟩
set_option maxRecDepth 20000 in
theorem ok_RM_isCosts : kx_mok m_RM_isCosts := ⟨by decide +kernel, kx_in (List.mem_of_getElem? (i := 1835) (by decide +kernel)) rfl, kx_in (List.mem_of_getElem? (i := 186) (by decide +kernel)) rfl, by decide +kernel, by decide +kernel⟩
set_option maxRecDepth 20000 in
theorem ok_RM_isRow : kx_mok m_RM_isRow := ⟨by decide +kernel, kx_in (List.mem_of_getElem? (i := 1839) (by decide +kernel)) rfl, kx_in (List.mem_of_getElem? (i := 186) (by decide +kernel)) rfl, by decide +kernel, by decide +kernel⟩
set_option maxRecDepth 20000 in
theorem ok_RM_kindWord : kx_mok m_RM_kindWord := ⟨by decide +kernel, kx_in (List.mem_of_getElem? (i := 1843) (by decide +kernel)) rfl, kx_in (List.mem_of_getElem? (i := 186) (by decide +kernel)) rfl, by decide +kernel, by decide +kernel⟩
set_option maxRecDepth 20000 in
theorem ok_RM_stepWord : kx_mok m_RM_stepWord := ⟨by decide +kernel, kx_in (List.mem_of_getElem? (i := 1847) (by decide +kernel)) rfl, kx_in (List.mem_of_getElem? (i := 186) (by decide +kernel)) rfl, by decide +kernel, by decide +kernel⟩
set_option maxRecDepth 20000 in
theorem ok_RM_testWord : kx_mok m_RM_testWord := ⟨by decide +kernel, kx_in (List.mem_of_getElem? (i := 1851) (by decide +kernel)) rfl, kx_in (List.mem_of_getElem? (i := 186) (by decide +kernel)) rfl, by decide +kernel, by decide +kernel⟩
set_option maxRecDepth 20000 in
theorem ok_RM_isEnd : kx_mok m_RM_isEnd := ⟨by decide +kernel, kx_in (List.mem_of_getElem? (i := 1855) (by decide +kernel)) rfl, kx_in (List.mem_of_getElem? (i := 186) (by decide +kernel)) rfl, by decide +kernel, by decide +kernel⟩
set_option maxRecDepth 20000 in
theorem ok_RM_named : kx_mok m_RM_named := ⟨by decide +kernel, kx_in (List.mem_of_getElem? (i := 1859) (by decide +kernel)) rfl, kx_in (List.mem_of_getElem? (i := 186) (by decide +kernel)) rfl, by decide +kernel, by decide +kernel⟩
set_option maxRecDepth 20000 in
theorem ok_RM_readClause : kx_mok m_RM_readClause := ⟨by decide +kernel, kx_in (List.mem_of_getElem? (i := 1863) (by decide +kernel)) rfl, kx_in (List.mem_of_getElem? (i := 186) (by decide +kernel)) rfl, by decide +kernel, by decide +kernel⟩
set_option maxRecDepth 20000 in
theorem ok_RM_must : kx_mok m_RM_must := ⟨by decide +kernel, kx_in (List.mem_of_getElem? (i := 1867) (by decide +kernel)) rfl, kx_in (List.mem_of_getElem? (i := 186) (by decide +kernel)) rfl, by decide +kernel, by decide +kernel⟩
set_option maxRecDepth 20000 in
theorem ok_RM_readClash : kx_mok m_RM_readClash := ⟨by decide +kernel, kx_in (List.mem_of_getElem? (i := 1871) (by decide +kernel)) rfl, kx_in (List.mem_of_getElem? (i := 186) (by decide +kernel)) rfl, by decide +kernel, by decide +kernel⟩
set_option maxRecDepth 20000 in
theorem ok_RM_readTold : kx_mok m_RM_readTold := ⟨by decide +kernel, kx_in (List.mem_of_getElem? (i := 1875) (by decide +kernel)) rfl, kx_in (List.mem_of_getElem? (i := 186) (by decide +kernel)) rfl, by decide +kernel, by decide +kernel⟩
set_option maxRecDepth 20000 in
theorem ok_RM_told : kx_mok m_RM_told := ⟨by decide +kernel, kx_in (List.mem_of_getElem? (i := 1879) (by decide +kernel)) rfl, kx_in (List.mem_of_getElem? (i := 186) (by decide +kernel)) rfl, by decide +kernel, by decide +kernel⟩
set_option maxRecDepth 20000 in
theorem ok_RM_readWorth : kx_mok m_RM_readWorth := ⟨by decide +kernel, kx_in (List.mem_of_getElem? (i := 1884) (by decide +kernel)) rfl, kx_in (List.mem_of_getElem? (i := 186) (by decide +kernel)) rfl, by decide +kernel, by decide +kernel⟩
set_option maxRecDepth 20000 in
theorem ok_RM_readRow : kx_mok m_RM_readRow := ⟨by decide +kernel, kx_in (List.mem_of_getElem? (i := 1888) (by decide +kernel)) rfl, kx_in (List.mem_of_getElem? (i := 186) (by decide +kernel)) rfl, by decide +kernel, by decide +kernel⟩
set_option maxRecDepth 20000 in
theorem ok_RM_isSign : kx_mok m_RM_isSign := ⟨by decide +kernel, kx_in (List.mem_of_getElem? (i := 1892) (by decide +kernel)) rfl, kx_in (List.mem_of_getElem? (i := 186) (by decide +kernel)) rfl, by decide +kernel, by decide +kernel⟩
set_option maxRecDepth 20000 in
theorem ok_RM_isWell : kx_mok m_RM_isWell := ⟨by decide +kernel, kx_in (List.mem_of_getElem? (i := 1896) (by decide +kernel)) rfl, kx_in (List.mem_of_getElem? (i := 186) (by decide +kernel)) rfl, by decide +kernel, by decide +kernel⟩
set_option maxRecDepth 20000 in
theorem ok_RM_copy : kx_mok m_RM_copy := ⟨by decide +kernel, kx_in (List.mem_of_getElem? (i := 1900) (by decide +kernel)) rfl, kx_in (List.mem_of_getElem? (i := 186) (by decide +kernel)) rfl, by decide +kernel, by decide +kernel⟩
set_option maxRecDepth 20000 in
theorem ok_RM_centuries : kx_mok m_RM_centuries := ⟨by decide +kernel, kx_in (List.mem_of_getElem? (i := 1904) (by decide +kernel)) rfl, kx_in (List.mem_of_getElem? (i := 186) (by decide +kernel)) rfl, by decide +kernel, by decide +kernel⟩
set_option maxRecDepth 20000 in
theorem ok_RM_readStep : kx_mok m_RM_readStep := ⟨by decide +kernel, kx_in (List.mem_of_getElem? (i := 1908) (by decide +kernel)) rfl, kx_in (List.mem_of_getElem? (i := 186) (by decide +kernel)) rfl, by decide +kernel, by decide +kernel⟩
set_option maxRecDepth 20000 in
theorem ok_RM_readRest : kx_mok m_RM_readRest := ⟨by decide +kernel, kx_in (List.mem_of_getElem? (i := 1912) (by decide +kernel)) rfl, kx_in (List.mem_of_getElem? (i := 186) (by decide +kernel)) rfl, by decide +kernel, by decide +kernel⟩
set_option maxRecDepth 20000 in
theorem ok_RM_readTest : kx_mok m_RM_readTest := ⟨by decide +kernel, kx_in (List.mem_of_getElem? (i := 1916) (by decide +kernel)) rfl, kx_in (List.mem_of_getElem? (i := 186) (by decide +kernel)) rfl, by decide +kernel, by decide +kernel⟩
set_option maxRecDepth 20000 in
theorem ok_RM_readMany : kx_mok m_RM_readMany := ⟨by decide +kernel, kx_in (List.mem_of_getElem? (i := 1920) (by decide +kernel)) rfl, kx_in (List.mem_of_getElem? (i := 186) (by decide +kernel)) rfl, by decide +kernel, by decide +kernel⟩
set_option maxRecDepth 20000 in
theorem ok_RM_many : kx_mok m_RM_many := ⟨by decide +kernel, kx_in (List.mem_of_getElem? (i := 1924) (by decide +kernel)) rfl, kx_in (List.mem_of_getElem? (i := 186) (by decide +kernel)) rfl, by decide +kernel, by decide +kernel⟩
set_option maxRecDepth 20000 in
theorem ok_RM_refuse : kx_mok m_RM_refuse := ⟨by decide +kernel, kx_in (List.mem_of_getElem? (i := 1929) (by decide +kernel)) rfl, kx_in (List.mem_of_getElem? (i := 186) (by decide +kernel)) rfl, by decide +kernel, by decide +kernel⟩
set_option maxRecDepth 20000 in
theorem ok_RM_sumOf : kx_mok m_RM_sumOf := ⟨by decide +kernel, kx_in (List.mem_of_getElem? (i := 1933) (by decide +kernel)) rfl, kx_in (List.mem_of_getElem? (i := 186) (by decide +kernel)) rfl, by decide +kernel, by decide +kernel⟩
set_option maxRecDepth 20000 in
theorem ok_RM_place : kx_mok m_RM_place := ⟨by decide +kernel, kx_in (List.mem_of_getElem? (i := 1936) (by decide +kernel)) rfl, kx_in (List.mem_of_getElem? (i := 186) (by decide +kernel)) rfl, by decide +kernel, by decide +kernel⟩
set_option maxRecDepth 20000 in
theorem ok_RM_isUndone : kx_mok m_RM_isUndone := ⟨by decide +kernel, kx_in (List.mem_of_getElem? (i := 1940) (by decide +kernel)) rfl, kx_in (List.mem_of_getElem? (i := 186) (by decide +kernel)) rfl, by decide +kernel, by decide +kernel⟩
set_option maxRecDepth 20000 in
theorem ok_RM_saidOnes : kx_mok m_RM_saidOnes := ⟨by decide +kernel, kx_in (List.mem_of_getElem? (i := 1944) (by decide +kernel)) rfl, kx_in (List.mem_of_getElem? (i := 186) (by decide +kernel)) rfl, by decide +kernel, by decide +kernel⟩
set_option maxRecDepth 20000 in
theorem ok_RM_times : kx_mok m_RM_times := ⟨by decide +kernel, kx_in (List.mem_of_getElem? (i := 1948) (by decide +kernel)) rfl, kx_in (List.mem_of_getElem? (i := 186) (by decide +kernel)) rfl, by decide +kernel, by decide +kernel⟩
set_option maxRecDepth 20000 in
theorem ok_RM_timesIn : kx_mok m_RM_timesIn := ⟨by decide +kernel, kx_in (List.mem_of_getElem? (i := 1952) (by decide +kernel)) rfl, kx_in (List.mem_of_getElem? (i := 186) (by decide +kernel)) rfl, by decide +kernel, by decide +kernel⟩
set_option maxRecDepth 20000 in
theorem ok_RM_isSaid : kx_mok m_RM_isSaid := ⟨by decide +kernel, kx_in (List.mem_of_getElem? (i := 1956) (by decide +kernel)) rfl, kx_in (List.mem_of_getElem? (i := 186) (by decide +kernel)) rfl, by decide +kernel, by decide +kernel⟩
set_option maxRecDepth 20000 in
theorem ok_RM_stitch : kx_mok m_RM_stitch := ⟨by decide +kernel, kx_in (List.mem_of_getElem? (i := 1960) (by decide +kernel)) rfl, kx_in (List.mem_of_getElem? (i := 186) (by decide +kernel)) rfl, by decide +kernel, by decide +kernel⟩
set_option maxRecDepth 20000 in
theorem ok_RM_isRowAt : kx_mok m_RM_isRowAt := ⟨by decide +kernel, kx_in (List.mem_of_getElem? (i := 1964) (by decide +kernel)) rfl, kx_in (List.mem_of_getElem? (i := 186) (by decide +kernel)) rfl, by decide +kernel, by decide +kernel⟩
set_option maxRecDepth 20000 in
theorem ok_RM_isColumn : kx_mok m_RM_isColumn := ⟨by decide +kernel, kx_in (List.mem_of_getElem? (i := 1968) (by decide +kernel)) rfl, kx_in (List.mem_of_getElem? (i := 186) (by decide +kernel)) rfl, by decide +kernel, by decide +kernel⟩
set_option maxRecDepth 20000 in
theorem ok_RM_queenOf : kx_mok m_RM_queenOf := ⟨by decide +kernel, kx_in (List.mem_of_getElem? (i := 1973) (by decide +kernel)) rfl, kx_in (List.mem_of_getElem? (i := 186) (by decide +kernel)) rfl, by decide +kernel, by decide +kernel⟩
set_option maxRecDepth 20000 in
theorem ok_RM_wool : kx_mok m_RM_wool := ⟨by decide +kernel, kx_in (List.mem_of_getElem? (i := 1977) (by decide +kernel)) rfl, kx_in (List.mem_of_getElem? (i := 186) (by decide +kernel)) rfl, by decide +kernel, by decide +kernel⟩
set_option maxRecDepth 20000 in
theorem ok_RM_isQueenAt : kx_mok m_RM_isQueenAt := ⟨by decide +kernel, kx_in (List.mem_of_getElem? (i := 1981) (by decide +kernel)) rfl, kx_in (List.mem_of_getElem? (i := 186) (by decide +kernel)) rfl, by decide +kernel, by decide +kernel⟩
set_option maxRecDepth 20000 in
theorem ok_RM_length : kx_mok m_RM_length := ⟨by decide +kernel, kx_in (List.mem_of_getElem? (i := 1985) (by decide +kernel)) rfl, kx_in (List.mem_of_getElem? (i := 186) (by decide +kernel)) rfl, by decide +kernel, by decide +kernel⟩
set_option maxRecDepth 20000 in
theorem ok_RM_isClauseAt : kx_mok m_RM_isClauseAt := ⟨by decide +kernel, kx_in (List.mem_of_getElem? (i := 1989) (by decide +kernel)) rfl, kx_in (List.mem_of_getElem? (i := 186) (by decide +kernel)) rfl, by decide +kernel, by decide +kernel⟩
set_option maxRecDepth 20000 in
theorem ok_RM_kind : kx_mok m_RM_kind := ⟨by decide +kernel, kx_in (List.mem_of_getElem? (i := 1993) (by decide +kernel)) rfl, kx_in (List.mem_of_getElem? (i := 186) (by decide +kernel)) rfl, by decide +kernel, by decide +kernel⟩
set_option maxRecDepth 20000 in
theorem ok_RM_clash : kx_mok m_RM_clash := ⟨by decide +kernel, kx_in (List.mem_of_getElem? (i := 1997) (by decide +kernel)) rfl, kx_in (List.mem_of_getElem? (i := 186) (by decide +kernel)) rfl, by decide +kernel, by decide +kernel⟩
set_option maxRecDepth 20000 in
theorem ok_RM_worth : kx_mok m_RM_worth := ⟨by decide +kernel, kx_in (List.mem_of_getElem? (i := 2001) (by decide +kernel)) rfl, kx_in (List.mem_of_getElem? (i := 186) (by decide +kernel)) rfl, by decide +kernel, by decide +kernel⟩
set_option maxRecDepth 20000 in
theorem ok_RM_copyRow : kx_mok m_RM_copyRow := ⟨by decide +kernel, kx_in (List.mem_of_getElem? (i := 2005) (by decide +kernel)) rfl, kx_in (List.mem_of_getElem? (i := 186) (by decide +kernel)) rfl, by decide +kernel, by decide +kernel⟩
set_option maxRecDepth 20000 in
theorem ok_RM_isTray : kx_mok m_RM_isTray := ⟨by decide +kernel, kx_in (List.mem_of_getElem? (i := 2009) (by decide +kernel)) rfl, kx_in (List.mem_of_getElem? (i := 186) (by decide +kernel)) rfl, by decide +kernel, by decide +kernel⟩
set_option maxRecDepth 20000 in
theorem ok_RM_year : kx_mok m_RM_year := ⟨by decide +kernel, kx_in (List.mem_of_getElem? (i := 2013) (by decide +kernel)) rfl, kx_in (List.mem_of_getElem? (i := 186) (by decide +kernel)) rfl, by decide +kernel, by decide +kernel⟩
set_option maxRecDepth 20000 in
theorem ok_RM_goesYear : kx_mok m_RM_goesYear := ⟨by decide +kernel, kx_in (List.mem_of_getElem? (i := 2018) (by decide +kernel)) rfl, kx_in (List.mem_of_getElem? (i := 186) (by decide +kernel)) rfl, by decide +kernel, by decide +kernel⟩
set_option maxRecDepth 20000 in
theorem ok_RM_isLoose : kx_mok m_RM_isLoose := ⟨by decide +kernel, kx_in (List.mem_of_getElem? (i := 2022) (by decide +kernel)) rfl, kx_in (List.mem_of_getElem? (i := 186) (by decide +kernel)) rfl, by decide +kernel, by decide +kernel⟩
set_option maxRecDepth 20000 in
theorem ok_RM_beside : kx_mok m_RM_beside := ⟨by decide +kernel, kx_in (List.mem_of_getElem? (i := 2026) (by decide +kernel)) rfl, kx_in (List.mem_of_getElem? (i := 186) (by decide +kernel)) rfl, by decide +kernel, by decide +kernel⟩
set_option maxRecDepth 20000 in
theorem ok_RM_withLadders : kx_mok m_RM_withLadders := ⟨by decide +kernel, kx_in (List.mem_of_getElem? (i := 2031) (by decide +kernel)) rfl, kx_in (List.mem_of_getElem? (i := 186) (by decide +kernel)) rfl, by decide +kernel, by decide +kernel⟩
set_option maxRecDepth 20000 in
theorem ok_RM_climbs : kx_mok m_RM_climbs := ⟨by decide +kernel, kx_in (List.mem_of_getElem? (i := 2035) (by decide +kernel)) rfl, kx_in (List.mem_of_getElem? (i := 186) (by decide +kernel)) rfl, by decide +kernel, by decide +kernel⟩
set_option maxRecDepth 20000 in
theorem ok_RM_pull : kx_mok m_RM_pull := ⟨by decide +kernel, kx_in (List.mem_of_getElem? (i := 2039) (by decide +kernel)) rfl, kx_in (List.mem_of_getElem? (i := 186) (by decide +kernel)) rfl, by decide +kernel, by decide +kernel⟩
set_option maxRecDepth 20000 in
theorem ok_RM_isSide : kx_mok m_RM_isSide := ⟨by decide +kernel, kx_in (List.mem_of_getElem? (i := 2042) (by decide +kernel)) rfl, kx_in (List.mem_of_getElem? (i := 186) (by decide +kernel)) rfl, by decide +kernel, by decide +kernel⟩
set_option maxRecDepth 20000 in
theorem ok_RM_pulls : kx_mok m_RM_pulls := ⟨by decide +kernel, kx_in (List.mem_of_getElem? (i := 2046) (by decide +kernel)) rfl, kx_in (List.mem_of_getElem? (i := 186) (by decide +kernel)) rfl, by decide +kernel, by decide +kernel⟩
set_option maxRecDepth 20000 in
theorem ok_RM_moth : kx_mok m_RM_moth := ⟨by decide +kernel, kx_in (List.mem_of_getElem? (i := 2050) (by decide +kernel)) rfl, kx_in (List.mem_of_getElem? (i := 186) (by decide +kernel)) rfl, by decide +kernel, by decide +kernel⟩
set_option maxRecDepth 20000 in
theorem ok_RM_eats : kx_mok m_RM_eats := ⟨by decide +kernel, kx_in (List.mem_of_getElem? (i := 2054) (by decide +kernel)) rfl, kx_in (List.mem_of_getElem? (i := 186) (by decide +kernel)) rfl, by decide +kernel, by decide +kernel⟩
set_option maxRecDepth 20000 in
theorem ok_RM_darn : kx_mok m_RM_darn := ⟨by decide +kernel, kx_in (List.mem_of_getElem? (i := 2058) (by decide +kernel)) rfl, kx_in (List.mem_of_getElem? (i := 186) (by decide +kernel)) rfl, by decide +kernel, by decide +kernel⟩
set_option maxRecDepth 20000 in
theorem ok_RM_darns : kx_mok m_RM_darns := ⟨by decide +kernel, kx_in (List.mem_of_getElem? (i := 2062) (by decide +kernel)) rfl, kx_in (List.mem_of_getElem? (i := 186) (by decide +kernel)) rfl, by decide +kernel, by decide +kernel⟩
set_option maxRecDepth 20000 in
theorem ok_RM_knit : kx_mok m_RM_knit := ⟨by decide +kernel, kx_in (List.mem_of_getElem? (i := 2066) (by decide +kernel)) rfl, kx_in (List.mem_of_getElem? (i := 186) (by decide +kernel)) rfl, by decide +kernel, by decide +kernel⟩
set_option maxRecDepth 20000 in
theorem ok_RM_whyNoRun : kx_mok m_RM_whyNoRun := ⟨by decide +kernel, kx_in (List.mem_of_getElem? (i := 2070) (by decide +kernel)) rfl, kx_in (List.mem_of_getElem? (i := 186) (by decide +kernel)) rfl, by decide +kernel, by decide +kernel⟩
set_option maxRecDepth 20000 in
theorem ok_RM_numberOf : kx_mok m_RM_numberOf := ⟨by decide +kernel, kx_in (List.mem_of_getElem? (i := 2074) (by decide +kernel)) rfl, kx_in (List.mem_of_getElem? (i := 186) (by decide +kernel)) rfl, by decide +kernel, by decide +kernel⟩
set_option maxRecDepth 20000 in
theorem ok_RM_takesAll : kx_mok m_RM_takesAll := ⟨by decide +kernel, kx_in (List.mem_of_getElem? (i := 2078) (by decide +kernel)) rfl, kx_in (List.mem_of_getElem? (i := 186) (by decide +kernel)) rfl, by decide +kernel, by decide +kernel⟩
set_option maxRecDepth 20000 in
theorem ok_RM_takes : kx_mok m_RM_takes := ⟨by decide +kernel, kx_in (List.mem_of_getElem? (i := 2081) (by decide +kernel)) rfl, kx_in (List.mem_of_getElem? (i := 186) (by decide +kernel)) rfl, by decide +kernel, by decide +kernel⟩
set_option maxRecDepth 20000 in
theorem ok_RM_unravel : kx_mok m_RM_unravel := ⟨by decide +kernel, kx_in (List.mem_of_getElem? (i := 2085) (by decide +kernel)) rfl, kx_in (List.mem_of_getElem? (i := 186) (by decide +kernel)) rfl, by decide +kernel, by decide +kernel⟩
set_option maxRecDepth 20000 in
theorem ok_RM_shear : kx_mok m_RM_shear := ⟨by decide +kernel, kx_in (List.mem_of_getElem? (i := 2089) (by decide +kernel)) rfl, kx_in (List.mem_of_getElem? (i := 186) (by decide +kernel)) rfl, by decide +kernel, by decide +kernel⟩
set_option maxRecDepth 20000 in
theorem ok_RM_rule : kx_mok m_RM_rule := ⟨by decide +kernel, kx_in (List.mem_of_getElem? (i := 2094) (by decide +kernel)) rfl, kx_in (List.mem_of_getElem? (i := 186) (by decide +kernel)) rfl, by decide +kernel, by decide +kernel⟩
set_option maxRecDepth 20000 in
theorem ok_RM_quarrel : kx_mok m_RM_quarrel := ⟨by decide +kernel, kx_in (List.mem_of_getElem? (i := 2099) (by decide +kernel)) rfl, kx_in (List.mem_of_getElem? (i := 186) (by decide +kernel)) rfl, by decide +kernel, by decide +kernel⟩
set_option maxRecDepth 20000 in
theorem ok_RM_value : kx_mok m_RM_value := ⟨by decide +kernel, kx_in (List.mem_of_getElem? (i := 2103) (by decide +kernel)) rfl, kx_in (List.mem_of_getElem? (i := 186) (by decide +kernel)) rfl, by decide +kernel, by decide +kernel⟩
set_option maxRecDepth 20000 in
theorem ok_RM_saidIn : kx_mok m_RM_saidIn := ⟨by decide +kernel, kx_in (List.mem_of_getElem? (i := 2107) (by decide +kernel)) rfl, kx_in (List.mem_of_getElem? (i := 186) (by decide +kernel)) rfl, by decide +kernel, by decide +kernel⟩
set_option maxRecDepth 20000 in
theorem ok_RM_said : kx_mok m_RM_said := ⟨by decide +kernel, kx_in (List.mem_of_getElem? (i := 2111) (by decide +kernel)) rfl, kx_in (List.mem_of_getElem? (i := 186) (by decide +kernel)) rfl, by decide +kernel, by decide +kernel⟩
set_option maxRecDepth 20000 in
theorem ok_RM_firstSaid : kx_mok m_RM_firstSaid := ⟨by decide +kernel, kx_in (List.mem_of_getElem? (i := 2115) (by decide +kernel)) rfl, kx_in (List.mem_of_getElem? (i := 186) (by decide +kernel)) rfl, by decide +kernel, by decide +kernel⟩
set_option maxRecDepth 20000 in
theorem ok_RM_binds : kx_mok m_RM_binds := ⟨by decide +kernel, kx_in (List.mem_of_getElem? (i := 2119) (by decide +kernel)) rfl, kx_in (List.mem_of_getElem? (i := 186) (by decide +kernel)) rfl, by decide +kernel, by decide +kernel⟩
set_option maxRecDepth 20000 in
theorem ok_RM_bound : kx_mok m_RM_bound := ⟨by decide +kernel, kx_in (List.mem_of_getElem? (i := 2123) (by decide +kernel)) rfl, kx_in (List.mem_of_getElem? (i := 186) (by decide +kernel)) rfl, by decide +kernel, by decide +kernel⟩
set_option maxRecDepth 20000 in
theorem ok_RM_boundBy : kx_mok m_RM_boundBy := ⟨by decide +kernel, kx_in (List.mem_of_getElem? (i := 2127) (by decide +kernel)) rfl, kx_in (List.mem_of_getElem? (i := 186) (by decide +kernel)) rfl, by decide +kernel, by decide +kernel⟩
set_option maxRecDepth 20000 in
theorem ok_RM_clashes : kx_mok m_RM_clashes := ⟨by decide +kernel, kx_in (List.mem_of_getElem? (i := 2131) (by decide +kernel)) rfl, kx_in (List.mem_of_getElem? (i := 186) (by decide +kernel)) rfl, by decide +kernel, by decide +kernel⟩
set_option maxRecDepth 20000 in
theorem ok_RM_clashing : kx_mok m_RM_clashing := ⟨by decide +kernel, kx_in (List.mem_of_getElem? (i := 2135) (by decide +kernel)) rfl, kx_in (List.mem_of_getElem? (i := 186) (by decide +kernel)) rfl, by decide +kernel, by decide +kernel⟩
set_option maxRecDepth 20000 in
theorem ok_RM_firstClash : kx_mok m_RM_firstClash := ⟨by decide +kernel, kx_in (List.mem_of_getElem? (i := 2139) (by decide +kernel)) rfl, kx_in (List.mem_of_getElem? (i := 186) (by decide +kernel)) rfl, by decide +kernel, by decide +kernel⟩
set_option maxRecDepth 20000 in
theorem ok_RM_needs : kx_mok m_RM_needs := ⟨by decide +kernel, kx_in (List.mem_of_getElem? (i := 2143) (by decide +kernel)) rfl, kx_in (List.mem_of_getElem? (i := 186) (by decide +kernel)) rfl, by decide +kernel, by decide +kernel⟩
set_option maxRecDepth 20000 in
theorem ok_RM_lost : kx_mok m_RM_lost := ⟨by decide +kernel, kx_in (List.mem_of_getElem? (i := 2147) (by decide +kernel)) rfl, kx_in (List.mem_of_getElem? (i := 186) (by decide +kernel)) rfl, by decide +kernel, by decide +kernel⟩
set_option maxRecDepth 20000 in
theorem ok_RM_losing : kx_mok m_RM_losing := ⟨by decide +kernel, kx_in (List.mem_of_getElem? (i := 2151) (by decide +kernel)) rfl, kx_in (List.mem_of_getElem? (i := 186) (by decide +kernel)) rfl, by decide +kernel, by decide +kernel⟩
set_option maxRecDepth 20000 in
theorem ok_RM_keeps : kx_mok m_RM_keeps := ⟨by decide +kernel, kx_in (List.mem_of_getElem? (i := 2155) (by decide +kernel)) rfl, kx_in (List.mem_of_getElem? (i := 186) (by decide +kernel)) rfl, by decide +kernel, by decide +kernel⟩
set_option maxRecDepth 20000 in
theorem ok_RM_gives : kx_mok m_RM_gives := ⟨by decide +kernel, kx_in (List.mem_of_getElem? (i := 2159) (by decide +kernel)) rfl, kx_in (List.mem_of_getElem? (i := 186) (by decide +kernel)) rfl, by decide +kernel, by decide +kernel⟩
set_option maxRecDepth 20000 in
theorem ok_RM_undoneIn : kx_mok m_RM_undoneIn := ⟨by decide +kernel, kx_in (List.mem_of_getElem? (i := 2163) (by decide +kernel)) rfl, kx_in (List.mem_of_getElem? (i := 186) (by decide +kernel)) rfl, by decide +kernel, by decide +kernel⟩
set_option maxRecDepth 20000 in
theorem ok_RM_firstLost : kx_mok m_RM_firstLost := ⟨by decide +kernel, kx_in (List.mem_of_getElem? (i := 2167) (by decide +kernel)) rfl, kx_in (List.mem_of_getElem? (i := 186) (by decide +kernel)) rfl, by decide +kernel, by decide +kernel⟩
set_option maxRecDepth 20000 in
theorem ok_RM_pulled : kx_mok m_RM_pulled := ⟨by decide +kernel, kx_in (List.mem_of_getElem? (i := 2171) (by decide +kernel)) rfl, kx_in (List.mem_of_getElem? (i := 186) (by decide +kernel)) rfl, by decide +kernel, by decide +kernel⟩
set_option maxRecDepth 20000 in
theorem ok_RM_wouldPull : kx_mok m_RM_wouldPull := ⟨by decide +kernel, kx_in (List.mem_of_getElem? (i := 2175) (by decide +kernel)) rfl, kx_in (List.mem_of_getElem? (i := 186) (by decide +kernel)) rfl, by decide +kernel, by decide +kernel⟩
set_option maxRecDepth 20000 in
theorem ok_RM_worstPull : kx_mok m_RM_worstPull := ⟨by decide +kernel, kx_in (List.mem_of_getElem? (i := 2179) (by decide +kernel)) rfl, kx_in (List.mem_of_getElem? (i := 186) (by decide +kernel)) rfl, by decide +kernel, by decide +kernel⟩
set_option maxRecDepth 20000 in
theorem ok_RM_pulledOut : kx_mok m_RM_pulledOut := ⟨by decide +kernel, kx_in (List.mem_of_getElem? (i := 2183) (by decide +kernel)) rfl, kx_in (List.mem_of_getElem? (i := 186) (by decide +kernel)) rfl, by decide +kernel, by decide +kernel⟩
set_option maxRecDepth 20000 in
theorem ok_RM_mend : kx_mok m_RM_mend := ⟨by decide +kernel, kx_in (List.mem_of_getElem? (i := 2187) (by decide +kernel)) rfl, kx_in (List.mem_of_getElem? (i := 186) (by decide +kernel)) rfl, by decide +kernel, by decide +kernel⟩
set_option maxRecDepth 20000 in
theorem ok_RM_whyNoMend : kx_mok m_RM_whyNoMend := ⟨by decide +kernel, kx_in (List.mem_of_getElem? (i := 2191) (by decide +kernel)) rfl, kx_in (List.mem_of_getElem? (i := 186) (by decide +kernel)) rfl, by decide +kernel, by decide +kernel⟩
set_option maxRecDepth 20000 in
theorem ok_RM_mending : kx_mok m_RM_mending := ⟨by decide +kernel, kx_in (List.mem_of_getElem? (i := 2195) (by decide +kernel)) rfl, kx_in (List.mem_of_getElem? (i := 186) (by decide +kernel)) rfl, by decide +kernel, by decide +kernel⟩
set_option maxRecDepth 20000 in
theorem ok_RM_sizeOf : kx_mok m_RM_sizeOf := ⟨by decide +kernel, kx_in (List.mem_of_getElem? (i := 2198) (by decide +kernel)) rfl, kx_in (List.mem_of_getElem? (i := 186) (by decide +kernel)) rfl, by decide +kernel, by decide +kernel⟩
set_option maxRecDepth 20000 in
theorem ok_RM_isMended : kx_mok m_RM_isMended := ⟨by decide +kernel, kx_in (List.mem_of_getElem? (i := 2202) (by decide +kernel)) rfl, kx_in (List.mem_of_getElem? (i := 186) (by decide +kernel)) rfl, by decide +kernel, by decide +kernel⟩
set_option maxRecDepth 20000 in
theorem ok_RM_mendSet : kx_mok m_RM_mendSet := ⟨by decide +kernel, kx_in (List.mem_of_getElem? (i := 2206) (by decide +kernel)) rfl, kx_in (List.mem_of_getElem? (i := 186) (by decide +kernel)) rfl, by decide +kernel, by decide +kernel⟩
set_option maxRecDepth 20000 in
theorem ok_RM_shortest : kx_mok m_RM_shortest := ⟨by decide +kernel, kx_in (List.mem_of_getElem? (i := 2210) (by decide +kernel)) rfl, kx_in (List.mem_of_getElem? (i := 186) (by decide +kernel)) rfl, by decide +kernel, by decide +kernel⟩
set_option maxRecDepth 20000 in
theorem ok_RM_areClauses : kx_mok m_RM_areClauses := ⟨by decide +kernel, kx_in (List.mem_of_getElem? (i := 2214) (by decide +kernel)) rfl, kx_in (List.mem_of_getElem? (i := 186) (by decide +kernel)) rfl, by decide +kernel, by decide +kernel⟩
set_option maxRecDepth 20000 in
theorem ok_RM_kernel : kx_mok m_RM_kernel := ⟨by decide +kernel, kx_in (List.mem_of_getElem? (i := 2218) (by decide +kernel)) rfl, kx_in (List.mem_of_getElem? (i := 186) (by decide +kernel)) rfl, by decide +kernel, by decide +kernel⟩
set_option maxRecDepth 20000 in
theorem ok_RM_isWithin : kx_mok m_RM_isWithin := ⟨by decide +kernel, kx_in (List.mem_of_getElem? (i := 2222) (by decide +kernel)) rfl, kx_in (List.mem_of_getElem? (i := 186) (by decide +kernel)) rfl, by decide +kernel, by decide +kernel⟩
set_option maxRecDepth 20000 in
theorem ok_RM_lays : kx_mok m_RM_lays := ⟨by decide +kernel, kx_in (List.mem_of_getElem? (i := 2226) (by decide +kernel)) rfl, kx_in (List.mem_of_getElem? (i := 186) (by decide +kernel)) rfl, by decide +kernel, by decide +kernel⟩
set_option maxRecDepth 20000 in
theorem ok_RM_isBetter : kx_mok m_RM_isBetter := ⟨by decide +kernel, kx_in (List.mem_of_getElem? (i := 2230) (by decide +kernel)) rfl, kx_in (List.mem_of_getElem? (i := 186) (by decide +kernel)) rfl, by decide +kernel, by decide +kernel⟩
set_option maxRecDepth 20000 in
theorem ok_RM_laps : kx_mok m_RM_laps := ⟨by decide +kernel, kx_in (List.mem_of_getElem? (i := 2234) (by decide +kernel)) rfl, kx_in (List.mem_of_getElem? (i := 186) (by decide +kernel)) rfl, by decide +kernel, by decide +kernel⟩
set_option maxRecDepth 20000 in
theorem ok_RM_shortestAt : kx_mok m_RM_shortestAt := ⟨by decide +kernel, kx_in (List.mem_of_getElem? (i := 2238) (by decide +kernel)) rfl, kx_in (List.mem_of_getElem? (i := 186) (by decide +kernel)) rfl, by decide +kernel, by decide +kernel⟩
set_option maxRecDepth 20000 in
theorem ok_RM_wins : kx_mok m_RM_wins := ⟨by decide +kernel, kx_in (List.mem_of_getElem? (i := 2242) (by decide +kernel)) rfl, kx_in (List.mem_of_getElem? (i := 186) (by decide +kernel)) rfl, by decide +kernel, by decide +kernel⟩
set_option maxRecDepth 20000 in
theorem ok_RM_gains : kx_mok m_RM_gains := ⟨by decide +kernel, kx_in (List.mem_of_getElem? (i := 2246) (by decide +kernel)) rfl, kx_in (List.mem_of_getElem? (i := 186) (by decide +kernel)) rfl, by decide +kernel, by decide +kernel⟩
set_option maxRecDepth 20000 in
theorem ok_RM_gain : kx_mok m_RM_gain := ⟨by decide +kernel, kx_in (List.mem_of_getElem? (i := 2250) (by decide +kernel)) rfl, kx_in (List.mem_of_getElem? (i := 186) (by decide +kernel)) rfl, by decide +kernel, by decide +kernel⟩
set_option maxRecDepth 20000 in
theorem ok_RM_bargain : kx_mok m_RM_bargain := ⟨by decide +kernel, kx_in (List.mem_of_getElem? (i := 2254) (by decide +kernel)) rfl, kx_in (List.mem_of_getElem? (i := 186) (by decide +kernel)) rfl, by decide +kernel, by decide +kernel⟩
set_option maxRecDepth 20000 in
theorem ok_RM_bestBargain : kx_mok m_RM_bestBargain := ⟨by decide +kernel, kx_in (List.mem_of_getElem? (i := 2258) (by decide +kernel)) rfl, kx_in (List.mem_of_getElem? (i := 186) (by decide +kernel)) rfl, by decide +kernel, by decide +kernel⟩
set_option maxRecDepth 20000 in
theorem ok_RM_isFair : kx_mok m_RM_isFair := ⟨by decide +kernel, kx_in (List.mem_of_getElem? (i := 2262) (by decide +kernel)) rfl, kx_in (List.mem_of_getElem? (i := 186) (by decide +kernel)) rfl, by decide +kernel, by decide +kernel⟩
set_option maxRecDepth 20000 in
theorem ok_RM_allGains : kx_mok m_RM_allGains := ⟨by decide +kernel, kx_in (List.mem_of_getElem? (i := 2266) (by decide +kernel)) rfl, kx_in (List.mem_of_getElem? (i := 186) (by decide +kernel)) rfl, by decide +kernel, by decide +kernel⟩
set_option maxRecDepth 20000 in
theorem ok_RM_bargainWorth : kx_mok m_RM_bargainWorth := ⟨by decide +kernel, kx_in (List.mem_of_getElem? (i := 2270) (by decide +kernel)) rfl, kx_in (List.mem_of_getElem? (i := 186) (by decide +kernel)) rfl, by decide +kernel, by decide +kernel⟩
set_option maxRecDepth 20000 in
theorem ok_RM_stable : kx_mok m_RM_stable := ⟨by decide +kernel, kx_in (List.mem_of_getElem? (i := 2274) (by decide +kernel)) rfl, kx_in (List.mem_of_getElem? (i := 186) (by decide +kernel)) rfl, by decide +kernel, by decide +kernel⟩
set_option maxRecDepth 20000 in
theorem ok_RM_isStable : kx_mok m_RM_isStable := ⟨by decide +kernel, kx_in (List.mem_of_getElem? (i := 2278) (by decide +kernel)) rfl, kx_in (List.mem_of_getElem? (i := 186) (by decide +kernel)) rfl, by decide +kernel, by decide +kernel⟩
set_option maxRecDepth 20000 in
theorem ok_RM_stables : kx_mok m_RM_stables := ⟨by decide +kernel, kx_in (List.mem_of_getElem? (i := 2282) (by decide +kernel)) rfl, kx_in (List.mem_of_getElem? (i := 186) (by decide +kernel)) rfl, by decide +kernel, by decide +kernel⟩
set_option maxRecDepth 20000 in
theorem ok_RM_fills : kx_mok m_RM_fills := ⟨by decide +kernel, kx_in (List.mem_of_getElem? (i := 2286) (by decide +kernel)) rfl, kx_in (List.mem_of_getElem? (i := 186) (by decide +kernel)) rfl, by decide +kernel, by decide +kernel⟩
set_option maxRecDepth 20000 in
theorem ok_RM_whyNoFill : kx_mok m_RM_whyNoFill := ⟨by decide +kernel, kx_in (List.mem_of_getElem? (i := 2290) (by decide +kernel)) rfl, kx_in (List.mem_of_getElem? (i := 186) (by decide +kernel)) rfl, by decide +kernel, by decide +kernel⟩
set_option maxRecDepth 20000 in
theorem ok_RM_reads : kx_mok m_RM_reads := ⟨by decide +kernel, kx_in (List.mem_of_getElem? (i := 2294) (by decide +kernel)) rfl, kx_in (List.mem_of_getElem? (i := 186) (by decide +kernel)) rfl, by decide +kernel, by decide +kernel⟩
set_option maxRecDepth 20000 in
theorem ok_RM_filling : kx_mok m_RM_filling := ⟨by decide +kernel, kx_in (List.mem_of_getElem? (i := 2298) (by decide +kernel)) rfl, kx_in (List.mem_of_getElem? (i := 186) (by decide +kernel)) rfl, by decide +kernel, by decide +kernel⟩
set_option maxRecDepth 20000 in
theorem ok_RM_led : kx_mok m_RM_led := ⟨by decide +kernel, kx_in (List.mem_of_getElem? (i := 2302) (by decide +kernel)) rfl, kx_in (List.mem_of_getElem? (i := 186) (by decide +kernel)) rfl, by decide +kernel, by decide +kernel⟩
set_option maxRecDepth 20000 in
theorem ok_RM_chance : kx_mok m_RM_chance := ⟨by decide +kernel, kx_in (List.mem_of_getElem? (i := 2306) (by decide +kernel)) rfl, kx_in (List.mem_of_getElem? (i := 186) (by decide +kernel)) rfl, by decide +kernel, by decide +kernel⟩
set_option maxRecDepth 20000 in
theorem ok_RM_fraction : kx_mok m_RM_fraction := ⟨by decide +kernel, kx_in (List.mem_of_getElem? (i := 2310) (by decide +kernel)) rfl, kx_in (List.mem_of_getElem? (i := 186) (by decide +kernel)) rfl, by decide +kernel, by decide +kernel⟩
set_option maxRecDepth 20000 in
theorem ok_RM_look : kx_mok m_RM_look := ⟨by decide +kernel, kx_in (List.mem_of_getElem? (i := 2317) (by decide +kernel)) rfl, kx_in (List.mem_of_getElem? (i := 186) (by decide +kernel)) rfl, by decide +kernel, by decide +kernel⟩
set_option maxRecDepth 20000 in
theorem ok_RM_fillingWith : kx_mok m_RM_fillingWith := ⟨by decide +kernel, kx_in (List.mem_of_getElem? (i := 2321) (by decide +kernel)) rfl, kx_in (List.mem_of_getElem? (i := 186) (by decide +kernel)) rfl, by decide +kernel, by decide +kernel⟩
set_option maxRecDepth 20000 in
theorem ok_RM_sure : kx_mok m_RM_sure := ⟨by decide +kernel, kx_in (List.mem_of_getElem? (i := 2325) (by decide +kernel)) rfl, kx_in (List.mem_of_getElem? (i := 186) (by decide +kernel)) rfl, by decide +kernel, by decide +kernel⟩
set_option maxRecDepth 20000 in
theorem ok_RM_live : kx_mok m_RM_live := ⟨by decide +kernel, kx_in (List.mem_of_getElem? (i := 2329) (by decide +kernel)) rfl, kx_in (List.mem_of_getElem? (i := 186) (by decide +kernel)) rfl, by decide +kernel, by decide +kernel⟩
set_option maxRecDepth 20000 in
theorem ok_RM_runsCenturies : kx_mok m_RM_runsCenturies := ⟨by decide +kernel, kx_in (List.mem_of_getElem? (i := 2334) (by decide +kernel)) rfl, kx_in (List.mem_of_getElem? (i := 186) (by decide +kernel)) rfl, by decide +kernel, by decide +kernel⟩
set_option maxRecDepth 20000 in
theorem ok_RM_doAll : kx_mok m_RM_doAll := ⟨by decide +kernel, kx_in (List.mem_of_getElem? (i := 2338) (by decide +kernel)) rfl, kx_in (List.mem_of_getElem? (i := 186) (by decide +kernel)) rfl, by decide +kernel, by decide +kernel⟩
set_option maxRecDepth 20000 in
theorem ok_RM_doOne : kx_mok m_RM_doOne := ⟨by decide +kernel, kx_in (List.mem_of_getElem? (i := 2342) (by decide +kernel)) rfl, kx_in (List.mem_of_getElem? (i := 186) (by decide +kernel)) rfl, by decide +kernel, by decide +kernel⟩
set_option maxRecDepth 20000 in
theorem ok_RM_does : kx_mok m_RM_does := ⟨by decide +kernel, kx_in (List.mem_of_getElem? (i := 2346) (by decide +kernel)) rfl, kx_in (List.mem_of_getElem? (i := 186) (by decide +kernel)) rfl, by decide +kernel, by decide +kernel⟩
set_option maxRecDepth 20000 in
theorem ok_RM_anyYears : kx_mok m_RM_anyYears := ⟨by decide +kernel, kx_in (List.mem_of_getElem? (i := 2350) (by decide +kernel)) rfl, kx_in (List.mem_of_getElem? (i := 186) (by decide +kernel)) rfl, by decide +kernel, by decide +kernel⟩
set_option maxRecDepth 20000 in
theorem ok_RM_isAny : kx_mok m_RM_isAny := ⟨by decide +kernel, kx_in (List.mem_of_getElem? (i := 2354) (by decide +kernel)) rfl, kx_in (List.mem_of_getElem? (i := 186) (by decide +kernel)) rfl, by decide +kernel, by decide +kernel⟩
set_option maxRecDepth 20000 in
theorem ok_RM_draw : kx_mok m_RM_draw := ⟨by decide +kernel, kx_in (List.mem_of_getElem? (i := 2358) (by decide +kernel)) rfl, kx_in (List.mem_of_getElem? (i := 186) (by decide +kernel)) rfl, by decide +kernel, by decide +kernel⟩
set_option maxRecDepth 20000 in
theorem ok_RM_isEaten : kx_mok m_RM_isEaten := ⟨by decide +kernel, kx_in (List.mem_of_getElem? (i := 2363) (by decide +kernel)) rfl, kx_in (List.mem_of_getElem? (i := 186) (by decide +kernel)) rfl, by decide +kernel, by decide +kernel⟩
set_option maxRecDepth 20000 in
theorem ok_RM_isPulled : kx_mok m_RM_isPulled := ⟨by decide +kernel, kx_in (List.mem_of_getElem? (i := 2367) (by decide +kernel)) rfl, kx_in (List.mem_of_getElem? (i := 186) (by decide +kernel)) rfl, by decide +kernel, by decide +kernel⟩
set_option maxRecDepth 20000 in
theorem ok_RM_isSo : kx_mok m_RM_isSo := ⟨by decide +kernel, kx_in (List.mem_of_getElem? (i := 2371) (by decide +kernel)) rfl, kx_in (List.mem_of_getElem? (i := 186) (by decide +kernel)) rfl, by decide +kernel, by decide +kernel⟩
set_option maxRecDepth 20000 in
theorem ok_RM_isWhole : kx_mok m_RM_isWhole := ⟨by decide +kernel, kx_in (List.mem_of_getElem? (i := 2375) (by decide +kernel)) rfl, kx_in (List.mem_of_getElem? (i := 186) (by decide +kernel)) rfl, by decide +kernel, by decide +kernel⟩
set_option maxRecDepth 20000 in
theorem ok_RM_lived : kx_mok m_RM_lived := ⟨by decide +kernel, kx_in (List.mem_of_getElem? (i := 2379) (by decide +kernel)) rfl, kx_in (List.mem_of_getElem? (i := 186) (by decide +kernel)) rfl, by decide +kernel, by decide +kernel⟩
set_option maxRecDepth 20000 in
theorem ok_RM_mean : kx_mok m_RM_mean := ⟨by decide +kernel, kx_in (List.mem_of_getElem? (i := 2384) (by decide +kernel)) rfl, kx_in (List.mem_of_getElem? (i := 186) (by decide +kernel)) rfl, by decide +kernel, by decide +kernel⟩
set_option maxRecDepth 20000 in
theorem ok_RM_mark : kx_mok m_RM_mark := ⟨by decide +kernel, kx_in (List.mem_of_getElem? (i := 2389) (by decide +kernel)) rfl, kx_in (List.mem_of_getElem? (i := 186) (by decide +kernel)) rfl, by decide +kernel, by decide +kernel⟩
set_option maxRecDepth 20000 in
theorem ok_RM_back : kx_mok m_RM_back := ⟨by decide +kernel, kx_in (List.mem_of_getElem? (i := 2393) (by decide +kernel)) rfl, kx_in (List.mem_of_getElem? (i := 186) (by decide +kernel)) rfl, by decide +kernel, by decide +kernel⟩

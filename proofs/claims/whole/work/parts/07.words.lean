set_option maxRecDepth 20000 in
theorem ggX0_sizeOf_X6_isOfKind : GoodIn wsX0_sizeOf wsX6_isOfKind := goodIn_r _ [4, 5] (by decide +kernel) (by decide +kernel)
set_option maxRecDepth 20000 in
theorem gX0_sizeOf_X6_isOfKind_n20 : GoodIn wsX0_sizeOf (wsX6_isOfKind) := ggX0_sizeOf_X6_isOfKind
set_option maxRecDepth 20000 in
theorem ggX0_sizeOf_X0_sizeOfBeech : GoodIn wsX0_sizeOf wsX0_sizeOfBeech := goodIn_r _ [10, 1, 11, 12, 13, 14, 9, 15, 16, 17, 18, 19, 20, 21, 22, 27, 28, 29, 30, 31, 32, 33, 34, 35, 36, 37, 38, 39, 40] (by decide +kernel) (by decide +kernel)
set_option maxRecDepth 20000 in
theorem gX0_sizeOf_X0_sizeOfBeech : GoodIn wsX0_sizeOf (wsV RX0 24 RX0 yX0_sizeOfBeech wsX0_sizeOfBeech) := goodIn_app (goodIn_of _ (by decide +kernel)) ggX0_sizeOf_X0_sizeOfBeech
set_option maxRecDepth 20000 in
theorem ggX0_sizeOf_X0_sizeOfPine : GoodIn wsX0_sizeOf wsX0_sizeOfPine := goodIn_r _ [26, 1, 11, 12, 13, 14, 9, 15, 16, 17, 27, 28, 29, 30, 31, 32, 33, 34, 35, 36, 37, 38, 39, 40] (by decide +kernel) (by decide +kernel)
set_option maxRecDepth 20000 in
theorem gX0_sizeOf_X0_sizeOfPine : GoodIn wsX0_sizeOf (wsV RX0 28 RX0 yX0_sizeOfPine wsX0_sizeOfPine) := goodIn_app (goodIn_of _ (by decide +kernel)) ggX0_sizeOf_X0_sizeOfPine
set_option maxRecDepth 20000 in
theorem ggX0_markOf_X6_isOfKind : GoodIn wsX0_markOf wsX6_isOfKind := goodIn_r _ [4, 5] (by decide +kernel) (by decide +kernel)
set_option maxRecDepth 20000 in
theorem gX0_markOf_X6_isOfKind_n20 : GoodIn wsX0_markOf (wsX6_isOfKind) := ggX0_markOf_X6_isOfKind
set_option maxRecDepth 20000 in
theorem ggX0_markOf_X0_markOfBeech : GoodIn wsX0_markOf wsX0_markOfBeech := goodIn_r _ [10, 1, 11, 12, 13, 14, 9, 15, 16, 17, 23, 24, 25, 26, 27, 28, 29, 30, 31, 32, 33, 34, 35, 36] (by decide +kernel) (by decide +kernel)
set_option maxRecDepth 20000 in
theorem gX0_markOf_X0_markOfBeech : GoodIn wsX0_markOf (wsV RX0 31 RX0 yX0_markOfBeech wsX0_markOfBeech) := goodIn_app (goodIn_of _ (by decide +kernel)) ggX0_markOf_X0_markOfBeech
set_option maxRecDepth 20000 in
theorem ggX0_markOf_X0_note : GoodIn wsX0_markOf wsX0_note := goodIn_r _ [15, 16, 17, 35, 36] (by decide +kernel) (by decide +kernel)
set_option maxRecDepth 20000 in
theorem gX0_markOf_X0_note : GoodIn wsX0_markOf (wsV RX0 34 RX0 yX0_note wsX0_note) := goodIn_app (goodIn_of _ (by decide +kernel)) ggX0_markOf_X0_note
set_option maxRecDepth 20000 in
theorem ggX0_markOf_X0_sizeOfPine : GoodIn wsX0_markOf wsX0_sizeOfPine := goodIn_r _ [21, 1, 22, 12, 13, 14, 9, 15, 16, 17, 23, 24, 25, 26, 27, 28, 29, 30, 31, 32, 33, 34, 35, 36] (by decide +kernel) (by decide +kernel)
set_option maxRecDepth 20000 in
theorem gX0_markOf_X0_sizeOfPine : GoodIn wsX0_markOf (wsV RX0 28 RX0 yX0_sizeOfPine wsX0_sizeOfPine) := goodIn_app (goodIn_of _ (by decide +kernel)) ggX0_markOf_X0_sizeOfPine
set_option maxRecDepth 20000 in
theorem ggX0_sizeOfBeech_X0_note : GoodIn wsX0_sizeOfBeech wsX0_note := goodIn_r _ [7, 8, 9, 27, 28] (by decide +kernel) (by decide +kernel)
set_option maxRecDepth 20000 in
theorem gX0_sizeOfBeech_X0_note : GoodIn wsX0_sizeOfBeech (wsV RX0 34 RX0 yX0_note wsX0_note) := goodIn_app (goodIn_of _ (by decide +kernel)) ggX0_sizeOfBeech_X0_note
set_option maxRecDepth 20000 in
theorem ggX0_sizeOfBeech_X0_markOfBeech : GoodIn wsX0_sizeOfBeech wsX0_markOfBeech := goodIn_r _ [13, 1, 14, 3, 4, 5, 6, 7, 8, 9, 15, 16, 17, 18, 19, 20, 21, 22, 23, 24, 25, 26, 27, 28] (by decide +kernel) (by decide +kernel)
set_option maxRecDepth 20000 in
theorem gX0_sizeOfBeech_X0_markOfBeech : GoodIn wsX0_sizeOfBeech (wsV RX0 31 RX0 yX0_markOfBeech wsX0_markOfBeech) := goodIn_app (goodIn_of _ (by decide +kernel)) ggX0_sizeOfBeech_X0_markOfBeech
set_option maxRecDepth 20000 in
theorem ggX0_sizeOfPine_X0_note : GoodIn wsX0_sizeOfPine wsX0_note := goodIn_r _ [7, 8, 9, 22, 23] (by decide +kernel) (by decide +kernel)
set_option maxRecDepth 20000 in
theorem gX0_sizeOfPine_X0_note : GoodIn wsX0_sizeOfPine (wsV RX0 34 RX0 yX0_note wsX0_note) := goodIn_app (goodIn_of _ (by decide +kernel)) ggX0_sizeOfPine_X0_note
set_option maxRecDepth 20000 in
theorem ggX0_markOfBeech_X0_note : GoodIn wsX0_markOfBeech wsX0_note := goodIn_r _ [7, 8, 9, 22, 23] (by decide +kernel) (by decide +kernel)
set_option maxRecDepth 20000 in
theorem gX0_markOfBeech_X0_note : GoodIn wsX0_markOfBeech (wsV RX0 34 RX0 yX0_note wsX0_note) := goodIn_app (goodIn_of _ (by decide +kernel)) ggX0_markOfBeech_X0_note
set_option maxRecDepth 20000 in
theorem ggX1_init_X5_init : GoodIn wsX1_init wsX5_init := goodIn_r _ [9, 10, 2, 3, 11, 12, 13, 14, 15, 16, 17, 18, 22, 23, 24, 25, 26, 27, 28, 29, 30, 31, 32, 33] (by decide +kernel) (by decide +kernel)
set_option maxRecDepth 20000 in
theorem gX1_init_X5_init_n17 : GoodIn wsX1_init (wsX5_init) := ggX1_init_X5_init
set_option maxRecDepth 20000 in
theorem ggX1_keep_X5_become : GoodIn wsX1_keep wsX5_become := goodIn_r _ [12, 13, 14, 15, 16, 17, 18, 19, 20, 21, 22, 23, 24, 25, 26, 27, 28, 32, 33, 34, 35, 36, 37, 38, 39, 40, 41, 42, 43] (by decide +kernel) (by decide +kernel)
set_option maxRecDepth 20000 in
theorem gX1_keep_X5_become : GoodIn wsX1_keep (wsV RX1 22 RX5 yX5_become wsX5_become) := goodIn_app (goodIn_of _ (by decide +kernel)) ggX1_keep_X5_become
set_option maxRecDepth 20000 in
theorem ggX1_bringBack_X5_become : GoodIn wsX1_bringBack wsX5_become := goodIn_r _ [8, 9, 10, 11, 12, 13, 14, 15, 16, 17, 18, 19, 20, 21, 22, 23, 24, 28, 29, 30, 31, 32, 33, 34, 35, 36, 37, 38, 39] (by decide +kernel) (by decide +kernel)
set_option maxRecDepth 20000 in
theorem gX1_bringBack_X5_become : GoodIn wsX1_bringBack (wsV RX1 22 RX5 yX5_become wsX5_become) := goodIn_app (goodIn_of _ (by decide +kernel)) ggX1_bringBack_X5_become
set_option maxRecDepth 20000 in
theorem ggX2_lookAt_J7_fill_53178 : GoodIn wsX2_lookAt wsJ7_fill_53178 := goodIn_r _ [6] (by decide +kernel) (by decide +kernel)
set_option maxRecDepth 20000 in
theorem gX2_lookAt_J7_fill_53178 : GoodIn wsX2_lookAt (va_wsS RX2 15 yJ7_fill_53178 wsJ7_fill_53178) := goodIn_app (goodIn_of _ (by decide +kernel)) ggX2_lookAt_J7_fill_53178
set_option maxRecDepth 20000 in
theorem ggX2_lookAt_X5_readAsOne : GoodIn wsX2_lookAt wsX5_readAsOne := goodIn_r _ [11, 12, 13, 14, 15, 10, 16, 17, 18, 19, 20, 21, 22, 23, 24, 25, 26, 27, 28, 29, 30, 31, 32, 33, 34, 35, 37, 38, 39, 40, 41, 42, 43, 44, 45, 46, 47, 48] (by decide +kernel) (by decide +kernel)
set_option maxRecDepth 20000 in
theorem gX2_lookAt_X5_readAsOne : GoodIn wsX2_lookAt (wsV RX2 27 RX5 yX5_readAsOne wsX5_readAsOne) := goodIn_app (goodIn_of _ (by decide +kernel)) ggX2_lookAt_X5_readAsOne
set_option maxRecDepth 20000 in
theorem ggX2_reached_X2_nextTo : GoodIn wsX2_reached wsX2_nextTo := goodIn_r _ [5, 6, 7, 8, 9, 10] (by decide +kernel) (by decide +kernel)
set_option maxRecDepth 20000 in
theorem gX2_reached_X2_nextTo : GoodIn wsX2_reached (wsV RX2 31 RX2 yX2_nextTo wsX2_nextTo) := goodIn_app (goodIn_of _ (by decide +kernel)) ggX2_reached_X2_nextTo
set_option maxRecDepth 20000 in
theorem ggX2_nextTo_X6_isIn : GoodIn wsX2_nextTo wsX6_isIn := goodIn_r _ [4] (by decide +kernel) (by decide +kernel)
set_option maxRecDepth 20000 in
theorem gX2_nextTo_X6_isIn_n35 : GoodIn wsX2_nextTo (wsX6_isIn) := ggX2_nextTo_X6_isIn
set_option maxRecDepth 20000 in
theorem ggX3_begin_J7_fill_53178 : GoodIn wsX3_begin wsJ7_fill_53178 := goodIn_r _ [8] (by decide +kernel) (by decide +kernel)
set_option maxRecDepth 20000 in
theorem gX3_begin_J7_fill_53178 : GoodIn wsX3_begin (va_wsS RX3 26 yJ7_fill_53178 wsJ7_fill_53178) := goodIn_app (goodIn_of _ (by decide +kernel)) ggX3_begin_J7_fill_53178
set_option maxRecDepth 20000 in
theorem ggX4_tells_X4_readsLaw : GoodIn wsX4_tells wsX4_readsLaw := goodIn_r _ [7, 8, 9, 10, 6, 11, 1, 12, 13, 14, 15, 2, 16, 17, 18, 19, 20, 21, 22, 23, 24, 25, 26, 27, 28, 29, 30, 31, 32, 33, 34, 35, 36, 37, 38, 39, 73, 74, 75, 76, 77, 78, 79, 80, 81, 82, 83, 84, 85, 86, 87, 88, 89] (by decide +kernel) (by decide +kernel)
set_option maxRecDepth 20000 in
theorem gX4_tells_X4_readsLaw : GoodIn wsX4_tells (wsV RX4 22 RX4 yX4_readsLaw wsX4_readsLaw) := goodIn_app (goodIn_of _ (by decide +kernel)) ggX4_tells_X4_readsLaw
set_option maxRecDepth 20000 in
theorem ggX4_tells_X4_kindHere : GoodIn wsX4_tells wsX4_kindHere := goodIn_r _ [43, 12, 13, 14, 6, 15, 1, 2, 16, 73, 74, 75, 76, 77] (by decide +kernel) (by decide +kernel)
set_option maxRecDepth 20000 in
theorem gX4_tells_X4_kindHere : GoodIn wsX4_tells (wsV RX4 26 RX4 yX4_kindHere wsX4_kindHere) := goodIn_app (goodIn_of _ (by decide +kernel)) ggX4_tells_X4_kindHere
set_option maxRecDepth 20000 in
theorem ggX4_tells_X4_readsTree : GoodIn wsX4_tells wsX4_readsTree := goodIn_r _ [47, 48, 1, 17, 18, 19, 6, 20, 21, 22, 40, 41, 42, 43, 12, 13, 14, 15, 2, 16, 23, 24, 25, 26, 27, 28, 29, 8, 9, 10, 11, 49, 50, 51, 33, 52, 38, 53, 54, 55, 78, 79, 80, 81, 82, 83, 84, 85, 86, 87, 88, 89, 73, 74, 75, 76, 77] (by decide +kernel) (by decide +kernel)
set_option maxRecDepth 20000 in
theorem gX4_tells_X4_readsTree : GoodIn wsX4_tells (wsV RX4 30 RX4 yX4_readsTree wsX4_readsTree) := goodIn_app (goodIn_of _ (by decide +kernel)) ggX4_tells_X4_readsTree
set_option maxRecDepth 20000 in
theorem ggX4_tells_X4_here : GoodIn wsX4_tells wsX4_here := goodIn_r _ [15, 1, 2, 16, 73, 74, 75, 76, 77] (by decide +kernel) (by decide +kernel)
set_option maxRecDepth 20000 in
theorem gX4_tells_X4_here : GoodIn wsX4_tells (wsV RX4 33 RX4 yX4_here wsX4_here) := goodIn_app (goodIn_of _ (by decide +kernel)) ggX4_tells_X4_here
set_option maxRecDepth 20000 in
theorem ggX4_tells_X4_readsCut : GoodIn wsX4_tells wsX4_readsCut := goodIn_r _ [59, 60, 1, 48, 17, 18, 19, 6, 20, 21, 22, 23, 24, 25, 26, 2, 16, 27, 28, 29, 8, 9, 10, 11, 12, 13, 14, 15, 61, 62, 63, 33, 64, 39, 65, 66, 67, 68, 69, 70, 71, 72, 78, 79, 80, 81, 82, 83, 84, 85, 86, 87, 88, 89, 73, 74, 75, 76, 77] (by decide +kernel) (by decide +kernel)
set_option maxRecDepth 20000 in
theorem gX4_tells_X4_readsCut : GoodIn wsX4_tells (wsV RX4 36 RX4 yX4_readsCut wsX4_readsCut) := goodIn_app (goodIn_of _ (by decide +kernel)) ggX4_tells_X4_readsCut
set_option maxRecDepth 20000 in
theorem ggX4_tells_X4_fails : GoodIn wsX4_tells wsX4_fails := goodIn_r _ [20, 21, 22, 73, 74, 75, 76, 77] (by decide +kernel) (by decide +kernel)
set_option maxRecDepth 20000 in
theorem gX4_tells_X4_fails : GoodIn wsX4_tells (wsV RX4 39 RX4 yX4_fails wsX4_fails) := goodIn_app (goodIn_of _ (by decide +kernel)) ggX4_tells_X4_fails
set_option maxRecDepth 20000 in
theorem ggX4_readsLaw_X4_reads : GoodIn wsX4_readsLaw wsX4_reads := goodIn_r _ [5, 6, 7, 8, 9, 4, 10, 11, 12, 13, 14, 15, 16, 17, 18, 36, 37, 38, 39, 40] (by decide +kernel) (by decide +kernel)
set_option maxRecDepth 20000 in
theorem gX4_readsLaw_X4_reads : GoodIn wsX4_readsLaw (wsV RX4 43 RX4 yX4_reads wsX4_reads) := goodIn_app (goodIn_of _ (by decide +kernel)) ggX4_readsLaw_X4_reads
set_option maxRecDepth 20000 in
theorem ggX4_readsLaw_X4_numberRead : GoodIn wsX4_readsLaw wsX4_numberRead := goodIn_r _ [22, 6, 11, 12, 23, 24, 4, 25, 13, 14, 15, 16, 17, 18, 36, 37, 38, 39, 40] (by decide +kernel) (by decide +kernel)
set_option maxRecDepth 20000 in
theorem gX4_readsLaw_X4_numberRead : GoodIn wsX4_readsLaw (wsV RX4 47 RX4 yX4_numberRead wsX4_numberRead) := goodIn_app (goodIn_of _ (by decide +kernel)) ggX4_readsLaw_X4_numberRead
set_option maxRecDepth 20000 in
theorem ggX4_readsLaw_X5_begin : GoodIn wsX4_readsLaw wsX5_begin := goodIn_r _ [30, 31, 32, 33, 34, 35, 41, 42, 43, 44, 45, 46, 47, 48, 49, 50, 51, 52] (by decide +kernel) (by decide +kernel)
set_option maxRecDepth 20000 in
theorem gX4_readsLaw_X5_begin : GoodIn wsX4_readsLaw (wsV RX4 51 RX5 yX5_begin wsX5_begin) := goodIn_app (goodIn_of _ (by decide +kernel)) ggX4_readsLaw_X5_begin
set_option maxRecDepth 20000 in
theorem ggX4_readsTree_X4_fails : GoodIn wsX4_readsTree wsX4_fails := goodIn_r _ [7, 8, 9, 52, 53, 54, 55, 56] (by decide +kernel) (by decide +kernel)
set_option maxRecDepth 20000 in
theorem gX4_readsTree_X4_fails : GoodIn wsX4_readsTree (wsV RX4 39 RX4 yX4_fails wsX4_fails) := goodIn_app (goodIn_of _ (by decide +kernel)) ggX4_readsTree_X4_fails
set_option maxRecDepth 20000 in
theorem ggX4_readsTree_X4_kindHere : GoodIn wsX4_readsTree wsX4_kindHere := goodIn_r _ [13, 14, 15, 16, 6, 17, 2, 18, 19, 52, 53, 54, 55, 56] (by decide +kernel) (by decide +kernel)
set_option maxRecDepth 20000 in
theorem gX4_readsTree_X4_kindHere : GoodIn wsX4_readsTree (wsV RX4 26 RX4 yX4_kindHere wsX4_kindHere) := goodIn_app (goodIn_of _ (by decide +kernel)) ggX4_readsTree_X4_kindHere
set_option maxRecDepth 20000 in
theorem ggX4_readsTree_X4_numberRead : GoodIn wsX4_readsTree wsX4_numberRead := goodIn_r _ [23, 2, 18, 19, 24, 25, 6, 26, 3, 4, 5, 7, 8, 9, 52, 53, 54, 55, 56] (by decide +kernel) (by decide +kernel)
set_option maxRecDepth 20000 in
theorem gX4_readsTree_X4_numberRead : GoodIn wsX4_readsTree (wsV RX4 47 RX4 yX4_numberRead wsX4_numberRead) := goodIn_app (goodIn_of _ (by decide +kernel)) ggX4_readsTree_X4_numberRead
set_option maxRecDepth 20000 in
theorem ggX4_readsTree_X4_reads : GoodIn wsX4_readsTree wsX4_reads := goodIn_r _ [30, 2, 14, 15, 16, 6, 17, 18, 19, 3, 4, 5, 7, 8, 9, 52, 53, 54, 55, 56] (by decide +kernel) (by decide +kernel)
set_option maxRecDepth 20000 in
theorem gX4_readsTree_X4_reads : GoodIn wsX4_readsTree (wsV RX4 43 RX4 yX4_reads wsX4_reads) := goodIn_app (goodIn_of _ (by decide +kernel)) ggX4_readsTree_X4_reads
set_option maxRecDepth 20000 in
theorem ggX4_readsTree_X5_addTree : GoodIn wsX4_readsTree wsX5_addTree := goodIn_r _ [35, 36, 37, 38, 39, 40, 41, 42, 43, 44, 45, 46, 47, 48, 49, 50, 51] (by decide +kernel) (by decide +kernel)
set_option maxRecDepth 20000 in
theorem gX4_readsTree_X5_addTree : GoodIn wsX4_readsTree (wsV RX4 60 RX5 yX5_addTree wsX5_addTree) := goodIn_app (goodIn_of _ (by decide +kernel)) ggX4_readsTree_X5_addTree
set_option maxRecDepth 20000 in
theorem ggX4_readsCut_X4_fails : GoodIn wsX4_readsCut wsX4_fails := goodIn_r _ [8, 9, 10, 54, 55, 56, 57, 58] (by decide +kernel) (by decide +kernel)
set_option maxRecDepth 20000 in
theorem gX4_readsCut_X4_fails : GoodIn wsX4_readsCut (wsV RX4 39 RX4 yX4_fails wsX4_fails) := goodIn_app (goodIn_of _ (by decide +kernel)) ggX4_readsCut_X4_fails
set_option maxRecDepth 20000 in
theorem ggX4_readsCut_X4_numberRead : GoodIn wsX4_readsCut wsX4_numberRead := goodIn_r _ [14, 2, 15, 16, 17, 18, 7, 19, 4, 5, 6, 8, 9, 10, 54, 55, 56, 57, 58] (by decide +kernel) (by decide +kernel)
set_option maxRecDepth 20000 in
theorem gX4_readsCut_X4_numberRead : GoodIn wsX4_readsCut (wsV RX4 47 RX4 yX4_numberRead wsX4_numberRead) := goodIn_app (goodIn_of _ (by decide +kernel)) ggX4_readsCut_X4_numberRead
set_option maxRecDepth 20000 in
theorem ggX4_readsCut_X4_reads : GoodIn wsX4_readsCut wsX4_reads := goodIn_r _ [23, 2, 24, 25, 26, 7, 27, 15, 16, 4, 5, 6, 8, 9, 10, 54, 55, 56, 57, 58] (by decide +kernel) (by decide +kernel)
set_option maxRecDepth 20000 in
theorem gX4_readsCut_X4_reads : GoodIn wsX4_readsCut (wsV RX4 43 RX4 yX4_reads wsX4_reads) := goodIn_app (goodIn_of _ (by decide +kernel)) ggX4_readsCut_X4_reads
set_option maxRecDepth 20000 in
theorem ggX4_readsCut_X5_hasCutAt : GoodIn wsX4_readsCut wsX5_hasCutAt := goodIn_r _ [32, 33, 34, 35, 42, 43, 44, 45, 46, 47, 48, 49, 50, 51, 52, 53] (by decide +kernel) (by decide +kernel)
set_option maxRecDepth 20000 in
theorem gX4_readsCut_X5_hasCutAt : GoodIn wsX4_readsCut (wsV RX4 67 RX5 yX5_hasCutAt wsX5_hasCutAt) := goodIn_app (goodIn_of _ (by decide +kernel)) ggX4_readsCut_X5_hasCutAt
set_option maxRecDepth 20000 in
theorem ggX4_readsCut_X5_addCut : GoodIn wsX4_readsCut wsX5_addCut := goodIn_r _ [39, 33, 34, 40, 35, 41, 42, 43, 44, 45, 46, 47, 48, 49, 50, 51, 52, 53] (by decide +kernel) (by decide +kernel)
set_option maxRecDepth 20000 in
theorem gX4_readsCut_X5_addCut : GoodIn wsX4_readsCut (wsV RX4 70 RX5 yX5_addCut wsX5_addCut) := goodIn_app (goodIn_of _ (by decide +kernel)) ggX4_readsCut_X5_addCut
set_option maxRecDepth 20000 in
theorem ggX4_numberRead_X4_isFigure : GoodIn wsX4_numberRead wsX4_isFigure := goodIn_r _ [7] (by decide +kernel) (by decide +kernel)
set_option maxRecDepth 20000 in
theorem gX4_numberRead_X4_isFigure : GoodIn wsX4_numberRead (va_wsS RX4 74 yX4_isFigure wsX4_isFigure) := goodIn_app (goodIn_of _ (by decide +kernel)) ggX4_numberRead_X4_isFigure
set_option maxRecDepth 20000 in
theorem ggX4_numberRead_X4_fails : GoodIn wsX4_numberRead wsX4_fails := goodIn_r _ [11, 12, 13, 14, 15, 16, 17, 18] (by decide +kernel) (by decide +kernel)
set_option maxRecDepth 20000 in
theorem gX4_numberRead_X4_fails : GoodIn wsX4_numberRead (wsV RX4 39 RX4 yX4_fails wsX4_fails) := goodIn_app (goodIn_of _ (by decide +kernel)) ggX4_numberRead_X4_fails
set_option maxRecDepth 20000 in
theorem ggX4_reads_X4_here : GoodIn wsX4_reads wsX4_here := goodIn_r _ [6, 1, 7, 8, 15, 16, 17, 18, 19] (by decide +kernel) (by decide +kernel)
set_option maxRecDepth 20000 in
theorem gX4_reads_X4_here : GoodIn wsX4_reads (wsV RX4 33 RX4 yX4_here wsX4_here) := goodIn_app (goodIn_of _ (by decide +kernel)) ggX4_reads_X4_here
set_option maxRecDepth 20000 in
theorem ggX4_reads_X4_fails : GoodIn wsX4_reads wsX4_fails := goodIn_r _ [12, 13, 14, 15, 16, 17, 18, 19] (by decide +kernel) (by decide +kernel)
set_option maxRecDepth 20000 in
theorem gX4_reads_X4_fails : GoodIn wsX4_reads (wsV RX4 39 RX4 yX4_fails wsX4_fails) := goodIn_app (goodIn_of _ (by decide +kernel)) ggX4_reads_X4_fails
set_option maxRecDepth 20000 in
theorem ggX4_kindHere_X4_here : GoodIn wsX4_kindHere wsX4_here := goodIn_r _ [5, 6, 7, 8, 9, 10, 11, 12, 13] (by decide +kernel) (by decide +kernel)
set_option maxRecDepth 20000 in
theorem gX4_kindHere_X4_here : GoodIn wsX4_kindHere (wsV RX4 33 RX4 yX4_here wsX4_here) := goodIn_app (goodIn_of _ (by decide +kernel)) ggX4_kindHere_X4_here
set_option maxRecDepth 20000 in
theorem ggX5_hasTree_X6_isBelow : GoodIn wsX5_hasTree wsX6_isBelow := goodIn_r _ [4] (by decide +kernel) (by decide +kernel)
set_option maxRecDepth 20000 in
theorem gX5_hasTree_X6_isBelow_n56 : GoodIn wsX5_hasTree (wsX6_isBelow) := ggX5_hasTree_X6_isBelow
set_option maxRecDepth 20000 in
theorem ggX5_hasCut_X6_isBelow : GoodIn wsX5_hasCut wsX6_isBelow := goodIn_r _ [4] (by decide +kernel) (by decide +kernel)
set_option maxRecDepth 20000 in
theorem gX5_hasCut_X6_isBelow_n56 : GoodIn wsX5_hasCut (wsX6_isBelow) := ggX5_hasCut_X6_isBelow
set_option maxRecDepth 20000 in
theorem ggX5_growth_X5_growthByKind : GoodIn wsX5_growth wsX5_growthByKind := goodIn_r _ [10, 11, 12, 13, 14, 15, 16, 17, 18, 19, 20, 21, 22, 23, 24, 25] (by decide +kernel) (by decide +kernel)
set_option maxRecDepth 20000 in
theorem gX5_growth_X5_growthByKind : GoodIn wsX5_growth (wsV RX5 60 RX5 yX5_growthByKind wsX5_growthByKind) := goodIn_app (goodIn_of _ (by decide +kernel)) ggX5_growth_X5_growthByKind
set_option maxRecDepth 20000 in
theorem ggX5_passYear_X5_growth : GoodIn wsX5_passYear wsX5_growth := goodIn_r _ [9, 2, 10, 11, 12, 13, 14, 15, 16, 8, 17, 18, 3, 4, 30, 31, 32, 33, 34, 35, 36, 37, 38, 39, 40, 41] (by decide +kernel) (by decide +kernel)
set_option maxRecDepth 20000 in
theorem gX5_passYear_X5_growth : GoodIn wsX5_passYear (wsV RX5 70 RX5 yX5_growth wsX5_growth) := goodIn_app (goodIn_of _ (by decide +kernel)) ggX5_passYear_X5_growth
set_option maxRecDepth 20000 in
theorem ggX5_passYear_X5_closesBy : GoodIn wsX5_passYear wsX5_closesBy := goodIn_r _ [22, 4, 30, 31, 32, 33, 34, 35, 36, 37, 38, 39, 40, 41] (by decide +kernel) (by decide +kernel)
set_option maxRecDepth 20000 in
theorem gX5_passYear_X5_closesBy : GoodIn wsX5_passYear (wsV RX5 73 RX5 yX5_closesBy wsX5_closesBy) := goodIn_app (goodIn_of _ (by decide +kernel)) ggX5_passYear_X5_closesBy
set_option maxRecDepth 20000 in
theorem ggX5_passYear_X5_closeCutsOf : GoodIn wsX5_passYear wsX5_closeCutsOf := goodIn_r _ [26, 27, 28, 29, 30, 31, 32, 33, 34, 35, 36, 37, 38, 39, 40, 41] (by decide +kernel) (by decide +kernel)
set_option maxRecDepth 20000 in
theorem gX5_passYear_X5_closeCutsOf : GoodIn wsX5_passYear (wsV RX5 76 RX5 yX5_closeCutsOf wsX5_closeCutsOf) := goodIn_app (goodIn_of _ (by decide +kernel)) ggX5_passYear_X5_closeCutsOf
set_option maxRecDepth 20000 in
theorem ggX5_passYears_X5_passYear : GoodIn wsX5_passYears wsX5_passYear := goodIn_r _ [5, 6, 7, 8, 9, 10, 11, 12, 4, 13, 14, 15, 16, 17, 18, 19, 20, 21, 22, 23, 24, 25, 26, 27, 28, 29, 30, 31, 32, 33, 34, 35, 36, 37, 38, 39, 40, 41, 42, 43, 44, 45] (by decide +kernel) (by decide +kernel)
set_option maxRecDepth 20000 in
theorem gX5_passYears_X5_passYear : GoodIn wsX5_passYears (wsV RX5 80 RX5 yX5_passYear wsX5_passYear) := goodIn_app (goodIn_of _ (by decide +kernel)) ggX5_passYears_X5_passYear
set_option maxRecDepth 20000 in
theorem ggX5_readableOn_X5_readable : GoodIn wsX5_readableOn wsX5_readable := goodIn_r _ [7, 1, 8, 9, 10, 11, 12, 13, 14, 15, 16, 17, 18, 19, 20] (by decide +kernel) (by decide +kernel)
set_option maxRecDepth 20000 in
theorem gX5_readableOn_X5_readable : GoodIn wsX5_readableOn (wsV RX5 83 RX5 yX5_readable wsX5_readable) := goodIn_app (goodIn_of _ (by decide +kernel)) ggX5_readableOn_X5_readable
set_option maxRecDepth 20000 in
theorem ggX5_distance_X5_placesApart : GoodIn wsX5_distance wsX5_placesApart := goodIn_r _ [7, 8, 9, 10, 11, 12, 13, 14, 15, 16, 17, 18, 19, 20, 21, 22, 23, 24, 25, 26, 27] (by decide +kernel) (by decide +kernel)
set_option maxRecDepth 20000 in
theorem gX5_distance_X5_placesApart : GoodIn wsX5_distance (wsV RX5 90 RX5 yX5_placesApart wsX5_placesApart) := goodIn_app (goodIn_of _ (by decide +kernel)) ggX5_distance_X5_placesApart
set_option maxRecDepth 20000 in
theorem ggX5_readAsOne_X5_bothReadable : GoodIn wsX5_readAsOne wsX5_bothReadable := goodIn_r _ [6, 7, 8, 26, 27, 28, 29, 30, 31, 32, 33, 34, 35, 36, 37] (by decide +kernel) (by decide +kernel)
set_option maxRecDepth 20000 in
theorem gX5_readAsOne_X5_bothReadable : GoodIn wsX5_readAsOne (wsV RX5 93 RX5 yX5_bothReadable wsX5_bothReadable) := goodIn_app (goodIn_of _ (by decide +kernel)) ggX5_readAsOne_X5_bothReadable
set_option maxRecDepth 20000 in
theorem ggX5_readAsOne_X5_distance : GoodIn wsX5_readAsOne wsX5_distance := goodIn_r _ [12, 13, 7, 14, 15, 16, 5, 17, 18, 19, 20, 21, 22, 23, 24, 25, 26, 27, 28, 29, 30, 31, 32, 33, 34, 35, 36, 37] (by decide +kernel) (by decide +kernel)
set_option maxRecDepth 20000 in
theorem gX5_readAsOne_X5_distance : GoodIn wsX5_readAsOne (wsV RX5 96 RX5 yX5_distance wsX5_distance) := goodIn_app (goodIn_of _ (by decide +kernel)) ggX5_readAsOne_X5_distance
set_option maxRecDepth 20000 in
theorem ggX5_meetBehind_X5_bothReadable : GoodIn wsX5_meetBehind wsX5_bothReadable := goodIn_r _ [5, 6, 7, 20, 21, 22, 23, 24, 25, 26, 27, 28, 29, 30, 31] (by decide +kernel) (by decide +kernel)
set_option maxRecDepth 20000 in
theorem gX5_meetBehind_X5_bothReadable : GoodIn wsX5_meetBehind (wsV RX5 93 RX5 yX5_bothReadable wsX5_bothReadable) := goodIn_app (goodIn_of _ (by decide +kernel)) ggX5_meetBehind_X5_bothReadable
set_option maxRecDepth 20000 in
theorem ggX5_meetBehind_X5_placesApart : GoodIn wsX5_meetBehind wsX5_placesApart := goodIn_r _ [11, 12, 13, 14, 15, 16, 17, 18, 19, 20, 21, 22, 23, 24, 25, 26, 27, 28, 29, 30, 31] (by decide +kernel) (by decide +kernel)
set_option maxRecDepth 20000 in
theorem gX5_meetBehind_X5_placesApart : GoodIn wsX5_meetBehind (wsV RX5 90 RX5 yX5_placesApart wsX5_placesApart) := goodIn_app (goodIn_of _ (by decide +kernel)) ggX5_meetBehind_X5_placesApart
set_option maxRecDepth 20000 in
theorem ggX6_init_X4_init : GoodIn wsX6_init wsX4_init := goodIn_r _ [31, 32, 2, 3, 33, 34, 73, 74, 75, 76, 77] (by decide +kernel) (by decide +kernel)
set_option maxRecDepth 20000 in
theorem gX6_init_X4_init_n17 : GoodIn wsX6_init (wsX4_init) := ggX6_init_X4_init
set_option maxRecDepth 20000 in
theorem ggX6_init_X5_init : GoodIn wsX6_init wsX5_init := goodIn_r _ [36, 37, 2, 3, 33, 38, 39, 40, 41, 42, 43, 44, 78, 79, 80, 81, 82, 83, 84, 85, 86, 87, 88, 89] (by decide +kernel) (by decide +kernel)
set_option maxRecDepth 20000 in
theorem gX6_init_X5_init_n24 : GoodIn wsX6_init (wsX5_init) := ggX6_init_X5_init
set_option maxRecDepth 20000 in
theorem ggX6_init_X1_init : GoodIn wsX6_init wsX1_init := goodIn_r _ [47, 48, 2, 3, 49, 50, 11, 12, 35, 36, 37, 33, 38, 39, 40, 41, 42, 43, 44, 90, 91, 92, 78, 79, 80, 81, 82, 83, 84, 85, 86, 87, 88, 89] (by decide +kernel) (by decide +kernel)
set_option maxRecDepth 20000 in
theorem gX6_init_X1_init : GoodIn wsX6_init (wsX1_init) := ggX6_init_X1_init
set_option maxRecDepth 20000 in
theorem ggX6_init_X2_init : GoodIn wsX6_init wsX2_init := goodIn_r _ [52, 53, 2, 3, 33, 54, 93] (by decide +kernel) (by decide +kernel)
set_option maxRecDepth 20000 in
theorem gX6_init_X2_init_n45 : GoodIn wsX6_init (wsX2_init) := ggX6_init_X2_init
set_option maxRecDepth 20000 in
theorem ggX6_init_X0_init : GoodIn wsX6_init wsX0_init := goodIn_r _ [56, 57, 2, 3, 33, 58, 94, 95] (by decide +kernel) (by decide +kernel)
set_option maxRecDepth 20000 in
theorem gX6_init_X0_init_n52 : GoodIn wsX6_init (wsX0_init) := ggX6_init_X0_init
set_option maxRecDepth 20000 in
theorem ggX6_init_X3_init : GoodIn wsX6_init wsX3_init := goodIn_r _ [60, 61, 2, 3, 33, 62, 96, 97, 98, 99] (by decide +kernel) (by decide +kernel)
set_option maxRecDepth 20000 in
theorem gX6_init_X3_init_n57 : GoodIn wsX6_init (wsX3_init) := ggX6_init_X3_init
set_option maxRecDepth 20000 in
theorem ggX6_row_X6_isRow : GoodIn wsX6_row wsX6_isRow := goodIn_r _ [6, 7, 8, 5, 9] (by decide +kernel) (by decide +kernel)
set_option maxRecDepth 20000 in
theorem gX6_row_X6_isRow : GoodIn wsX6_row (va_wsS RX6 58 yX6_isRow wsX6_isRow) := goodIn_app (goodIn_of _ (by decide +kernel)) ggX6_row_X6_isRow
set_option maxRecDepth 20000 in
theorem ggX6_row_X6_found : GoodIn wsX6_row wsX6_found := goodIn_r _ [13, 14, 15, 33, 34, 35, 36, 37, 38, 39, 40, 41, 42] (by decide +kernel) (by decide +kernel)
set_option maxRecDepth 20000 in
theorem gX6_row_X6_found : GoodIn wsX6_row (wsV RX6 63 RX6 yX6_found wsX6_found) := goodIn_app (goodIn_of _ (by decide +kernel)) ggX6_row_X6_found
set_option maxRecDepth 20000 in
theorem ggX6_row_X3_begin : GoodIn wsX6_row wsX3_begin := goodIn_r _ [20, 21, 22, 23, 24, 25, 26, 27, 28, 43, 44, 45, 46] (by decide +kernel) (by decide +kernel)
set_option maxRecDepth 20000 in
theorem gX6_row_X3_begin : GoodIn wsX6_row (wsV RX6 67 RX3 yX3_begin wsX3_begin) := goodIn_app (goodIn_of _ (by decide +kernel)) ggX6_row_X3_begin
set_option maxRecDepth 20000 in
theorem ggX6_row_X6_foundNothing : GoodIn wsX6_row wsX6_foundNothing := goodIn_r _ [32, 14, 33, 34, 35, 36, 37, 38, 39, 40, 41, 42] (by decide +kernel) (by decide +kernel)
set_option maxRecDepth 20000 in
theorem gX6_row_X6_foundNothing : GoodIn wsX6_row (wsV RX6 71 RX6 yX6_foundNothing wsX6_foundNothing) := goodIn_app (goodIn_of _ (by decide +kernel)) ggX6_row_X6_foundNothing
set_option maxRecDepth 20000 in
theorem ggX6_set_X6_isRow : GoodIn wsX6_set wsX6_isRow := goodIn_r _ [7, 8, 9, 6, 10] (by decide +kernel) (by decide +kernel)
set_option maxRecDepth 20000 in
theorem gX6_set_X6_isRow : GoodIn wsX6_set (va_wsS RX6 58 yX6_isRow wsX6_isRow) := goodIn_app (goodIn_of _ (by decide +kernel)) ggX6_set_X6_isRow
set_option maxRecDepth 20000 in
theorem ggX6_set_X6_findingIn : GoodIn wsX6_set wsX6_findingIn := goodIn_r _ [13, 14, 15, 16, 17, 18, 19, 20, 46, 47, 48, 49] (by decide +kernel) (by decide +kernel)
set_option maxRecDepth 20000 in
theorem gX6_set_X6_findingIn : GoodIn wsX6_set (va_wsS RX6 74 yX6_findingIn wsX6_findingIn) := goodIn_app (goodIn_of _ (by decide +kernel)) ggX6_set_X6_findingIn
set_option maxRecDepth 20000 in
theorem ggX6_set_X6_found : GoodIn wsX6_set wsX6_found := goodIn_r _ [24, 25, 26, 36, 37, 38, 39, 40, 41, 42, 43, 44, 45] (by decide +kernel) (by decide +kernel)
set_option maxRecDepth 20000 in
theorem gX6_set_X6_found : GoodIn wsX6_set (wsV RX6 63 RX6 yX6_found wsX6_found) := goodIn_app (goodIn_of _ (by decide +kernel)) ggX6_set_X6_found
set_option maxRecDepth 20000 in
theorem ggX6_set_X3_narrowed : GoodIn wsX6_set wsX3_narrowed := goodIn_r _ [30, 31, 46, 47, 48, 49] (by decide +kernel) (by decide +kernel)
set_option maxRecDepth 20000 in
theorem gX6_set_X3_narrowed : GoodIn wsX6_set (wsV RX6 82 RX3 yX3_narrowed wsX3_narrowed) := goodIn_app (goodIn_of _ (by decide +kernel)) ggX6_set_X3_narrowed
set_option maxRecDepth 20000 in
theorem ggX6_set_X6_foundNothing : GoodIn wsX6_set wsX6_foundNothing := goodIn_r _ [35, 25, 36, 37, 38, 39, 40, 41, 42, 43, 44, 45] (by decide +kernel) (by decide +kernel)
set_option maxRecDepth 20000 in
theorem gX6_set_X6_foundNothing : GoodIn wsX6_set (wsV RX6 71 RX6 yX6_foundNothing wsX6_foundNothing) := goodIn_app (goodIn_of _ (by decide +kernel)) ggX6_set_X6_foundNothing
set_option maxRecDepth 20000 in
theorem ggX6_copy_X6_isRow : GoodIn wsX6_copy wsX6_isRow := goodIn_r _ [13, 14, 15, 12, 16] (by decide +kernel) (by decide +kernel)
set_option maxRecDepth 20000 in
theorem gX6_copy_X6_isRow : GoodIn wsX6_copy (va_wsS RX6 58 yX6_isRow wsX6_isRow) := goodIn_app (goodIn_of _ (by decide +kernel)) ggX6_copy_X6_isRow
set_option maxRecDepth 20000 in
theorem ggX6_copy_X6_found : GoodIn wsX6_copy wsX6_found := goodIn_r _ [20, 21, 22, 33, 34, 35, 36, 37, 38, 39, 40, 41, 42] (by decide +kernel) (by decide +kernel)
set_option maxRecDepth 20000 in
theorem gX6_copy_X6_found : GoodIn wsX6_copy (wsV RX6 63 RX6 yX6_found wsX6_found) := goodIn_app (goodIn_of _ (by decide +kernel)) ggX6_copy_X6_found
set_option maxRecDepth 20000 in
theorem ggX6_copy_X3_spans : GoodIn wsX6_copy wsX3_spans := goodIn_r _ [27, 28, 43, 44, 45, 46] (by decide +kernel) (by decide +kernel)
set_option maxRecDepth 20000 in
theorem gX6_copy_X3_spans : GoodIn wsX6_copy (wsV RX6 93 RX3 yX3_spans wsX3_spans) := goodIn_app (goodIn_of _ (by decide +kernel)) ggX6_copy_X3_spans
set_option maxRecDepth 20000 in
theorem ggX6_copy_X6_foundNothing : GoodIn wsX6_copy wsX6_foundNothing := goodIn_r _ [32, 21, 33, 34, 35, 36, 37, 38, 39, 40, 41, 42] (by decide +kernel) (by decide +kernel)
set_option maxRecDepth 20000 in
theorem gX6_copy_X6_foundNothing : GoodIn wsX6_copy (wsV RX6 71 RX6 yX6_foundNothing wsX6_foundNothing) := goodIn_app (goodIn_of _ (by decide +kernel)) ggX6_copy_X6_foundNothing
set_option maxRecDepth 20000 in
theorem ggX6_drop_X6_isRow : GoodIn wsX6_drop wsX6_isRow := goodIn_r _ [8, 9, 10, 7, 11] (by decide +kernel) (by decide +kernel)
set_option maxRecDepth 20000 in
theorem gX6_drop_X6_isRow : GoodIn wsX6_drop (va_wsS RX6 58 yX6_isRow wsX6_isRow) := goodIn_app (goodIn_of _ (by decide +kernel)) ggX6_drop_X6_isRow
set_option maxRecDepth 20000 in
theorem ggX6_drop_X6_found : GoodIn wsX6_drop wsX6_found := goodIn_r _ [15, 16, 17, 22, 23, 24, 25, 26, 27, 28, 29, 30, 31] (by decide +kernel) (by decide +kernel)
set_option maxRecDepth 20000 in
theorem gX6_drop_X6_found : GoodIn wsX6_drop (wsV RX6 63 RX6 yX6_found wsX6_found) := goodIn_app (goodIn_of _ (by decide +kernel)) ggX6_drop_X6_found
set_option maxRecDepth 20000 in
theorem ggX6_drop_X6_foundNothing : GoodIn wsX6_drop wsX6_foundNothing := goodIn_r _ [21, 16, 22, 23, 24, 25, 26, 27, 28, 29, 30, 31] (by decide +kernel) (by decide +kernel)
set_option maxRecDepth 20000 in
theorem gX6_drop_X6_foundNothing : GoodIn wsX6_drop (wsV RX6 71 RX6 yX6_foundNothing wsX6_foundNothing) := goodIn_app (goodIn_of _ (by decide +kernel)) ggX6_drop_X6_foundNothing
set_option maxRecDepth 20000 in
theorem ggX6_feed_X4_takes : GoodIn wsX6_feed wsX4_takes := goodIn_r _ [9, 10, 11, 22, 23, 24, 25, 26] (by decide +kernel) (by decide +kernel)
set_option maxRecDepth 20000 in
theorem gX6_feed_X4_takes : GoodIn wsX6_feed (wsV RX6 106 RX4 yX4_takes wsX4_takes) := goodIn_app (goodIn_of _ (by decide +kernel)) ggX6_feed_X4_takes
set_option maxRecDepth 20000 in
theorem ggX6_wood_X4_tells : GoodIn wsX6_wood wsX4_tells := goodIn_r _ [15, 16, 17, 18, 19, 20, 14, 21, 22, 23, 24, 25, 26, 27, 28, 29, 30, 31, 32, 33, 34, 35, 36, 37, 38, 39, 40, 41, 42, 43, 44, 45, 46, 47, 48, 49, 50, 51, 52, 53, 54, 55, 56, 57, 58, 59, 60, 61, 62, 63, 64, 65, 66, 67, 68, 69, 70, 71, 72, 73, 74, 75, 76, 77, 78, 79, 80, 81, 82, 83, 84, 85, 86, 111, 112, 113, 114, 115, 116, 117, 118, 119, 120, 121, 122, 123, 124, 125, 126, 127] (by decide +kernel) (by decide +kernel)
set_option maxRecDepth 20000 in
theorem gX6_wood_X4_tells : GoodIn wsX6_wood (wsV RX6 113 RX4 yX4_tells wsX4_tells) := goodIn_app (goodIn_of _ (by decide +kernel)) ggX6_wood_X4_tells
set_option maxRecDepth 20000 in
theorem ggX6_wood_X5_become : GoodIn wsX6_wood wsX5_become := goodIn_r _ [90, 49, 50, 51, 52, 53, 67, 91, 92, 93, 94, 68, 69, 79, 85, 80, 86, 116, 117, 118, 119, 120, 121, 122, 123, 124, 125, 126, 127] (by decide +kernel) (by decide +kernel)
set_option maxRecDepth 20000 in
theorem gX6_wood_X5_become : GoodIn wsX6_wood (wsV RX6 127 RX5 yX5_become wsX5_become) := goodIn_app (goodIn_of _ (by decide +kernel)) ggX6_wood_X5_become
set_option maxRecDepth 20000 in
theorem ggX6_wood_X1_forget : GoodIn wsX6_wood wsX1_forget := goodIn_r _ [99, 100, 128, 129, 130] (by decide +kernel) (by decide +kernel)
set_option maxRecDepth 20000 in
theorem gX6_wood_X1_forget : GoodIn wsX6_wood (wsV RX6 131 RX1 yX1_forget wsX1_forget) := goodIn_app (goodIn_of _ (by decide +kernel)) ggX6_wood_X1_forget
set_option maxRecDepth 20000 in
theorem ggX6_years_X1_keep : GoodIn wsX6_years wsX1_keep := goodIn_r _ [12, 13, 14, 15, 16, 17, 18, 19, 20, 21, 22, 23, 24, 25, 26, 27, 28, 29, 30, 31, 32, 33, 34, 35, 36, 37, 38, 39, 40, 95, 96, 97, 83, 84, 85, 86, 87, 88, 89, 90, 91, 92, 93, 94] (by decide +kernel) (by decide +kernel)
set_option maxRecDepth 20000 in
theorem gX6_years_X1_keep : GoodIn wsX6_years (wsV RX6 144 RX1 yX1_keep wsX1_keep) := goodIn_app (goodIn_of _ (by decide +kernel)) ggX6_years_X1_keep
set_option maxRecDepth 20000 in
theorem ggX6_years_X5_passYear : GoodIn wsX6_years wsX5_passYear := goodIn_r _ [44, 28, 35, 30, 27, 45, 46, 47, 23, 48, 49, 17, 18, 19, 50, 51, 52, 53, 36, 54, 55, 56, 57, 58, 59, 60, 61, 29, 37, 40, 83, 84, 85, 86, 87, 88, 89, 90, 91, 92, 93, 94] (by decide +kernel) (by decide +kernel)
set_option maxRecDepth 20000 in
theorem gX6_years_X5_passYear : GoodIn wsX6_years (wsV RX6 147 RX5 yX5_passYear wsX5_passYear) := goodIn_app (goodIn_of _ (by decide +kernel)) ggX6_years_X5_passYear
set_option maxRecDepth 20000 in
theorem ggX6_years_X5_readable : GoodIn wsX6_years wsX5_readable := goodIn_r _ [65, 29, 40, 83, 84, 85, 86, 87, 88, 89, 90, 91, 92, 93, 94] (by decide +kernel) (by decide +kernel)
set_option maxRecDepth 20000 in
theorem gX6_years_X5_readable : GoodIn wsX6_years (wsV RX6 150 RX5 yX5_readable wsX5_readable) := goodIn_app (goodIn_of _ (by decide +kernel)) ggX6_years_X5_readable
set_option maxRecDepth 20000 in
theorem ggX6_years_J6_bitCount_0f7a4 : GoodIn wsX6_years wsJ6_bitCount_0f7a4 := goodIn_r _ [69, 70, 71, 72] (by decide +kernel) (by decide +kernel)
set_option maxRecDepth 20000 in
theorem gX6_years_J6_bitCount_0f7a4 : GoodIn wsX6_years (va_wsS RX6 154 yJ6_bitCount_0f7a4 wsJ6_bitCount_0f7a4) := goodIn_app (goodIn_of _ (by decide +kernel)) ggX6_years_J6_bitCount_0f7a4
set_option maxRecDepth 20000 in
theorem ggX6_cut_X5_hasTree : GoodIn wsX6_cut wsX5_hasTree := goodIn_r _ [11, 12, 13, 14, 15, 69, 70, 71, 72, 73, 74, 75, 76, 77, 78, 79, 80] (by decide +kernel) (by decide +kernel)
set_option maxRecDepth 20000 in
theorem gX6_cut_X5_hasTree : GoodIn wsX6_cut (wsV RX6 159 RX5 yX5_hasTree wsX5_hasTree) := goodIn_app (goodIn_of _ (by decide +kernel)) ggX6_cut_X5_hasTree
set_option maxRecDepth 20000 in
theorem ggX6_cut_X6_isBelow : GoodIn wsX6_cut wsX6_isBelow := goodIn_r _ [15] (by decide +kernel) (by decide +kernel)
set_option maxRecDepth 20000 in
theorem gX6_cut_X6_isBelow : GoodIn wsX6_cut (va_wsS RX6 162 yX6_isBelow wsX6_isBelow) := goodIn_app (goodIn_of _ (by decide +kernel)) ggX6_cut_X6_isBelow
set_option maxRecDepth 20000 in
theorem ggX6_cut_X6_isDepth : GoodIn wsX6_cut wsX6_isDepth := goodIn_r _ [19] (by decide +kernel) (by decide +kernel)
set_option maxRecDepth 20000 in
theorem gX6_cut_X6_isDepth : GoodIn wsX6_cut (va_wsS RX6 165 yX6_isDepth wsX6_isDepth) := goodIn_app (goodIn_of _ (by decide +kernel)) ggX6_cut_X6_isDepth
set_option maxRecDepth 20000 in
theorem ggX6_cut_X5_hasCutAt : GoodIn wsX6_cut wsX5_hasCutAt := goodIn_r _ [23, 24, 25, 26, 69, 70, 71, 72, 73, 74, 75, 76, 77, 78, 79, 80] (by decide +kernel) (by decide +kernel)
set_option maxRecDepth 20000 in
theorem gX6_cut_X5_hasCutAt : GoodIn wsX6_cut (wsV RX6 168 RX5 yX5_hasCutAt wsX5_hasCutAt) := goodIn_app (goodIn_of _ (by decide +kernel)) ggX6_cut_X5_hasCutAt
set_option maxRecDepth 20000 in
theorem ggX6_cut_X1_keep : GoodIn wsX6_cut wsX1_keep := goodIn_r _ [31, 32, 33, 34, 35, 36, 37, 38, 39, 40, 41, 10, 42, 43, 44, 45, 12, 24, 46, 47, 48, 49, 50, 51, 52, 25, 53, 26, 54, 81, 82, 83, 69, 70, 71, 72, 73, 74, 75, 76, 77, 78, 79, 80] (by decide +kernel) (by decide +kernel)
set_option maxRecDepth 20000 in
theorem gX6_cut_X1_keep : GoodIn wsX6_cut (wsV RX6 144 RX1 yX1_keep wsX1_keep) := goodIn_app (goodIn_of _ (by decide +kernel)) ggX6_cut_X1_keep
set_option maxRecDepth 20000 in
theorem ggX6_cut_X5_addCut : GoodIn wsX6_cut wsX5_addCut := goodIn_r _ [58, 24, 25, 53, 26, 54, 69, 70, 71, 72, 73, 74, 75, 76, 77, 78, 79, 80] (by decide +kernel) (by decide +kernel)
set_option maxRecDepth 20000 in
theorem gX6_cut_X5_addCut : GoodIn wsX6_cut (wsV RX6 171 RX5 yX5_addCut wsX5_addCut) := goodIn_app (goodIn_of _ (by decide +kernel)) ggX6_cut_X5_addCut
set_option maxRecDepth 20000 in
theorem ggX6_anew_X5_hasCut : GoodIn wsX6_anew wsX5_hasCut := goodIn_r _ [10, 11, 12, 13, 14, 59, 60, 61, 62, 63, 64, 65, 66, 67, 68, 69, 70] (by decide +kernel) (by decide +kernel)
set_option maxRecDepth 20000 in
theorem gX6_anew_X5_hasCut : GoodIn wsX6_anew (wsV RX6 175 RX5 yX5_hasCut wsX5_hasCut) := goodIn_app (goodIn_of _ (by decide +kernel)) ggX6_anew_X5_hasCut
set_option maxRecDepth 20000 in
theorem ggX6_anew_X6_isDepth : GoodIn wsX6_anew wsX6_isDepth := goodIn_r _ [17] (by decide +kernel) (by decide +kernel)
set_option maxRecDepth 20000 in
theorem gX6_anew_X6_isDepth : GoodIn wsX6_anew (va_wsS RX6 165 yX6_isDepth wsX6_isDepth) := goodIn_app (goodIn_of _ (by decide +kernel)) ggX6_anew_X6_isDepth
set_option maxRecDepth 20000 in
theorem ggX6_anew_X1_keep : GoodIn wsX6_anew wsX1_keep := goodIn_r _ [22, 23, 24, 25, 26, 27, 28, 29, 30, 31, 32, 9, 33, 34, 35, 36, 37, 11, 38, 39, 40, 41, 42, 43, 44, 45, 46, 47, 48, 71, 72, 73, 59, 60, 61, 62, 63, 64, 65, 66, 67, 68, 69, 70] (by decide +kernel) (by decide +kernel)
set_option maxRecDepth 20000 in
theorem gX6_anew_X1_keep : GoodIn wsX6_anew (wsV RX6 144 RX1 yX1_keep wsX1_keep) := goodIn_app (goodIn_of _ (by decide +kernel)) ggX6_anew_X1_keep
set_option maxRecDepth 20000 in
theorem ggX6_scrape_X5_hasCut : GoodIn wsX6_scrape wsX5_hasCut := goodIn_r _ [9, 10, 11, 12, 13, 59, 60, 61, 62, 63, 64, 65, 66, 67, 68, 69, 70] (by decide +kernel) (by decide +kernel)
set_option maxRecDepth 20000 in
theorem gX6_scrape_X5_hasCut : GoodIn wsX6_scrape (wsV RX6 175 RX5 yX5_hasCut wsX5_hasCut) := goodIn_app (goodIn_of _ (by decide +kernel)) ggX6_scrape_X5_hasCut
set_option maxRecDepth 20000 in
theorem ggX6_scrape_X1_keep : GoodIn wsX6_scrape wsX1_keep := goodIn_r _ [18, 19, 20, 21, 22, 23, 24, 25, 26, 27, 28, 8, 29, 30, 31, 32, 33, 10, 34, 35, 36, 37, 38, 39, 40, 41, 42, 43, 44, 71, 72, 73, 59, 60, 61, 62, 63, 64, 65, 66, 67, 68, 69, 70] (by decide +kernel) (by decide +kernel)
set_option maxRecDepth 20000 in
theorem gX6_scrape_X1_keep : GoodIn wsX6_scrape (wsV RX6 144 RX1 yX1_keep wsX1_keep) := goodIn_app (goodIn_of _ (by decide +kernel)) ggX6_scrape_X1_keep
set_option maxRecDepth 20000 in
theorem ggX6_scrape_X5_removeCut : GoodIn wsX6_scrape wsX5_removeCut := goodIn_r _ [48, 10, 41, 42, 43, 44, 59, 60, 61, 62, 63, 64, 65, 66, 67, 68, 69, 70] (by decide +kernel) (by decide +kernel)
set_option maxRecDepth 20000 in
theorem gX6_scrape_X5_removeCut : GoodIn wsX6_scrape (wsV RX6 181 RX5 yX5_removeCut wsX5_removeCut) := goodIn_app (goodIn_of _ (by decide +kernel)) ggX6_scrape_X5_removeCut
set_option maxRecDepth 20000 in
theorem ggX6_undo_X1_bringBack : GoodIn wsX6_undo wsX1_bringBack := goodIn_r _ [9, 10, 11, 12, 13, 14, 15, 16, 17, 18, 19, 20, 21, 22, 23, 24, 25, 26, 27, 28, 29, 30, 31, 32, 33, 44, 45, 46, 47, 48, 49, 50, 51, 52, 53, 54, 55, 56, 57, 58] (by decide +kernel) (by decide +kernel)
set_option maxRecDepth 20000 in
theorem gX6_undo_X1_bringBack : GoodIn wsX6_undo (wsV RX6 188 RX1 yX1_bringBack wsX1_bringBack) := goodIn_app (goodIn_of _ (by decide +kernel)) ggX6_undo_X1_bringBack
set_option maxRecDepth 20000 in
theorem ggX6_tree_X5_hasTree : GoodIn wsX6_tree wsX5_hasTree := goodIn_r _ [9, 10, 11, 12, 13, 51, 52, 53, 54, 55, 56, 57, 58, 59, 60, 61, 62] (by decide +kernel) (by decide +kernel)
set_option maxRecDepth 20000 in
theorem gX6_tree_X5_hasTree : GoodIn wsX6_tree (wsV RX6 159 RX5 yX5_hasTree wsX5_hasTree) := goodIn_app (goodIn_of _ (by decide +kernel)) ggX6_tree_X5_hasTree
set_option maxRecDepth 20000 in
theorem ggX6_tree_X5_readableOn : GoodIn wsX6_tree wsX5_readableOn := goodIn_r _ [17, 18, 19, 20, 21, 22, 8, 23, 24, 51, 52, 53, 54, 55, 56, 57, 58, 59, 60, 61, 62] (by decide +kernel) (by decide +kernel)
set_option maxRecDepth 20000 in
theorem gX6_tree_X5_readableOn : GoodIn wsX6_tree (wsV RX6 197 RX5 yX5_readableOn wsX5_readableOn) := goodIn_app (goodIn_of _ (by decide +kernel)) ggX6_tree_X5_readableOn
set_option maxRecDepth 20000 in
theorem ggX6_tree_X5_growth : GoodIn wsX6_tree wsX5_growth := goodIn_r _ [28, 29, 30, 31, 32, 33, 34, 35, 36, 8, 37, 38, 39, 40, 51, 52, 53, 54, 55, 56, 57, 58, 59, 60, 61, 62] (by decide +kernel) (by decide +kernel)
set_option maxRecDepth 20000 in
theorem gX6_tree_X5_growth : GoodIn wsX6_tree (wsV RX6 200 RX5 yX5_growth wsX5_growth) := goodIn_app (goodIn_of _ (by decide +kernel)) ggX6_tree_X5_growth
set_option maxRecDepth 20000 in
theorem ggX6_cutHas_X5_hasCut : GoodIn wsX6_cutHas wsX5_hasCut := goodIn_r _ [11, 12, 13, 14, 15, 26, 27, 28, 29, 30, 31, 32, 33, 34, 35, 36, 37] (by decide +kernel) (by decide +kernel)
set_option maxRecDepth 20000 in
theorem gX6_cutHas_X5_hasCut : GoodIn wsX6_cutHas (wsV RX6 175 RX5 yX5_hasCut wsX5_hasCut) := goodIn_app (goodIn_of _ (by decide +kernel)) ggX6_cutHas_X5_hasCut
set_option maxRecDepth 20000 in
theorem ggX6_apart_X5_hasCut : GoodIn wsX6_apart wsX5_hasCut := goodIn_r _ [8, 9, 10, 11, 12, 46, 47, 48, 49, 50, 51, 52, 53, 54, 55, 56, 57] (by decide +kernel) (by decide +kernel)
set_option maxRecDepth 20000 in
theorem gX6_apart_X5_hasCut : GoodIn wsX6_apart (wsV RX6 175 RX5 yX5_hasCut wsX5_hasCut) := goodIn_app (goodIn_of _ (by decide +kernel)) ggX6_apart_X5_hasCut
set_option maxRecDepth 20000 in
theorem ggX6_apart_X5_bothReadable : GoodIn wsX6_apart wsX5_bothReadable := goodIn_r _ [16, 17, 18, 46, 47, 48, 49, 50, 51, 52, 53, 54, 55, 56, 57] (by decide +kernel) (by decide +kernel)
set_option maxRecDepth 20000 in
theorem gX6_apart_X5_bothReadable : GoodIn wsX6_apart (wsV RX6 212 RX5 yX5_bothReadable wsX5_bothReadable) := goodIn_app (goodIn_of _ (by decide +kernel)) ggX6_apart_X5_bothReadable
set_option maxRecDepth 20000 in
theorem ggX6_apart_X5_distance : GoodIn wsX6_apart wsX5_distance := goodIn_r _ [22, 23, 17, 24, 25, 26, 7, 27, 28, 29, 30, 31, 32, 33, 34, 35, 46, 47, 48, 49, 50, 51, 52, 53, 54, 55, 56, 57] (by decide +kernel) (by decide +kernel)
set_option maxRecDepth 20000 in
theorem gX6_apart_X5_distance : GoodIn wsX6_apart (wsV RX6 215 RX5 yX5_distance wsX5_distance) := goodIn_app (goodIn_of _ (by decide +kernel)) ggX6_apart_X5_distance
set_option maxRecDepth 20000 in
theorem ggX6_together_X6_isPair : GoodIn wsX6_together wsX6_isPair := goodIn_r _ [7, 2, 8, 9, 10, 11, 12, 13, 14, 15, 6, 16, 72, 73, 74, 75, 76, 77, 78, 79, 80, 81, 82, 83, 84, 85, 86, 87, 88, 89, 90, 91, 92, 93] (by decide +kernel) (by decide +kernel)
set_option maxRecDepth 20000 in
theorem gX6_together_X6_isPair : GoodIn wsX6_together (wsV RX6 220 RX6 yX6_isPair wsX6_isPair) := goodIn_app (goodIn_of _ (by decide +kernel)) ggX6_together_X6_isPair
set_option maxRecDepth 20000 in
theorem ggX6_together_X6_areTogether : GoodIn wsX6_together wsX6_areTogether := goodIn_r _ [20, 21, 22, 23, 24, 25, 26, 27, 28, 29, 30, 31, 32, 33, 34, 35, 12, 36, 37, 38, 39, 40, 41, 42, 43, 44, 45, 46, 47, 48, 49, 50, 51, 52, 53, 54, 55, 56, 57, 58, 59, 60, 61, 62, 63, 64, 65, 66, 67, 68, 69, 6, 70, 71, 72, 73, 74, 75, 76, 77, 78, 79, 80, 81, 94, 82, 83, 84, 85, 86, 87, 88, 89, 90, 91, 92, 93] (by decide +kernel) (by decide +kernel)
set_option maxRecDepth 20000 in
theorem gX6_together_X6_areTogether : GoodIn wsX6_together (wsV RX6 223 RX6 yX6_areTogether wsX6_areTogether) := goodIn_app (goodIn_of _ (by decide +kernel)) ggX6_together_X6_areTogether
set_option maxRecDepth 20000 in
theorem ggX6_girth_X5_hasTree : GoodIn wsX6_girth wsX5_hasTree := goodIn_r _ [9, 10, 11, 12, 13, 79, 80, 81, 82, 83, 84, 85, 86, 87, 88, 89, 90] (by decide +kernel) (by decide +kernel)
set_option maxRecDepth 20000 in
theorem gX6_girth_X5_hasTree : GoodIn wsX6_girth (wsV RX6 159 RX5 yX5_hasTree wsX5_hasTree) := goodIn_app (goodIn_of _ (by decide +kernel)) ggX6_girth_X5_hasTree
set_option maxRecDepth 20000 in
theorem ggX6_girth_X6_isForetold : GoodIn wsX6_girth wsX6_isForetold := goodIn_r _ [16, 17, 11, 12, 13] (by decide +kernel) (by decide +kernel)
set_option maxRecDepth 20000 in
theorem gX6_girth_X6_isForetold : GoodIn wsX6_girth (va_wsS RX6 227 yX6_isForetold wsX6_isForetold) := goodIn_app (goodIn_of _ (by decide +kernel)) ggX6_girth_X6_isForetold
set_option maxRecDepth 20000 in
theorem ggX6_girth_X6_foretell : GoodIn wsX6_girth wsX6_foretell := goodIn_r _ [21, 3, 1, 22, 23, 24, 8, 25, 26, 27, 28, 10, 29, 30, 31, 32, 33, 34, 35, 36, 37, 38, 39, 40, 41, 42, 43, 44, 45, 46, 47, 48, 49, 50, 51, 52, 53, 54, 55, 56, 57, 58, 59, 60, 61, 62, 63, 64, 65, 66, 67, 68, 69, 70, 71, 72, 73, 74, 75, 76, 77, 78, 79, 80, 81, 82, 83, 84, 85, 86, 87, 88, 89, 90] (by decide +kernel) (by decide +kernel)
set_option maxRecDepth 20000 in
theorem gX6_girth_X6_foretell : GoodIn wsX6_girth (wsV RX6 230 RX6 yX6_foretell wsX6_foretell) := goodIn_app (goodIn_of _ (by decide +kernel)) ggX6_girth_X6_foretell
set_option maxRecDepth 20000 in
theorem ggX6_left_X6_isForetold : GoodIn wsX6_left wsX6_isForetold := goodIn_r _ [9, 10, 11, 8, 12] (by decide +kernel) (by decide +kernel)
set_option maxRecDepth 20000 in
theorem gX6_left_X6_isForetold : GoodIn wsX6_left (va_wsS RX6 227 yX6_isForetold wsX6_isForetold) := goodIn_app (goodIn_of _ (by decide +kernel)) ggX6_left_X6_isForetold
set_option maxRecDepth 20000 in
theorem ggX6_left_X6_foretell : GoodIn wsX6_left wsX6_foretell := goodIn_r _ [16, 5, 1, 17, 18, 19, 20, 21, 22, 23, 24, 25, 26, 27, 28, 29, 30, 31, 32, 33, 34, 35, 36, 37, 38, 39, 40, 41, 42, 43, 44, 45, 46, 47, 48, 49, 50, 51, 52, 53, 54, 55, 56, 57, 58, 59, 60, 61, 62, 63, 64, 65, 70, 71, 72, 73, 74, 75, 76, 77, 78, 79, 80, 81, 82, 83, 84, 85, 86, 87, 88, 89, 90, 91] (by decide +kernel) (by decide +kernel)
set_option maxRecDepth 20000 in
theorem gX6_left_X6_foretell : GoodIn wsX6_left (wsV RX6 230 RX6 yX6_foretell wsX6_foretell) := goodIn_app (goodIn_of _ (by decide +kernel)) ggX6_left_X6_foretell
set_option maxRecDepth 20000 in
theorem ggX6_left_X5_readable : GoodIn wsX6_left wsX5_readable := goodIn_r _ [69, 26, 37, 80, 81, 82, 83, 84, 85, 86, 87, 88, 89, 90, 91] (by decide +kernel) (by decide +kernel)
set_option maxRecDepth 20000 in
theorem gX6_left_X5_readable : GoodIn wsX6_left (wsV RX6 150 RX5 yX5_readable wsX5_readable) := goodIn_app (goodIn_of _ (by decide +kernel)) ggX6_left_X5_readable
set_option maxRecDepth 20000 in
theorem ggX6_free_X6_isPair : GoodIn wsX6_free wsX6_isPair := goodIn_r _ [9, 3, 10, 11, 12, 13, 14, 15, 16, 17, 8, 18, 108, 109, 110, 111, 112, 113, 114, 115, 116, 117, 118, 119, 120, 121, 122, 123, 124, 125, 126, 127, 128, 129] (by decide +kernel) (by decide +kernel)
set_option maxRecDepth 20000 in
theorem gX6_free_X6_isPair : GoodIn wsX6_free (wsV RX6 220 RX6 yX6_isPair wsX6_isPair) := goodIn_app (goodIn_of _ (by decide +kernel)) ggX6_free_X6_isPair
set_option maxRecDepth 20000 in
theorem ggX6_free_X5_become : GoodIn wsX6_free wsX5_become := goodIn_r _ [22, 23, 24, 25, 26, 16, 27, 28, 29, 30, 31, 32, 33, 34, 35, 36, 37, 118, 119, 120, 121, 122, 123, 124, 125, 126, 127, 128, 129] (by decide +kernel) (by decide +kernel)
set_option maxRecDepth 20000 in
theorem gX6_free_X5_become : GoodIn wsX6_free (wsV RX6 127 RX5 yX5_become wsX5_become) := goodIn_app (goodIn_of _ (by decide +kernel)) ggX6_free_X5_become
set_option maxRecDepth 20000 in
theorem ggX6_free_X6_areTogether : GoodIn wsX6_free wsX6_areTogether := goodIn_r _ [41, 42, 43, 44, 45, 46, 47, 48, 49, 50, 51, 52, 53, 54, 55, 56, 14, 57, 24, 58, 59, 60, 61, 34, 37, 62, 63, 64, 65, 32, 66, 67, 68, 69, 36, 70, 71, 72, 73, 74, 75, 76, 77, 78, 79, 80, 81, 82, 83, 84, 85, 8, 86, 87, 108, 109, 110, 111, 112, 113, 114, 115, 116, 117, 130, 118, 119, 120, 121, 122, 123, 124, 125, 126, 127, 128, 129] (by decide +kernel) (by decide +kernel)
set_option maxRecDepth 20000 in
theorem gX6_free_X6_areTogether : GoodIn wsX6_free (wsV RX6 223 RX6 yX6_areTogether wsX6_areTogether) := goodIn_app (goodIn_of _ (by decide +kernel)) ggX6_free_X6_areTogether
set_option maxRecDepth 20000 in
theorem ggX6_free_X5_passYear : GoodIn wsX6_free wsX5_passYear := goodIn_r _ [91, 26, 32, 27, 25, 92, 93, 94, 14, 95, 74, 75, 72, 76, 96, 97, 98, 99, 33, 100, 101, 102, 103, 104, 105, 106, 107, 16, 34, 37, 118, 119, 120, 121, 122, 123, 124, 125, 126, 127, 128, 129] (by decide +kernel) (by decide +kernel)
set_option maxRecDepth 20000 in
theorem gX6_free_X5_passYear : GoodIn wsX6_free (wsV RX6 147 RX5 yX5_passYear wsX5_passYear) := goodIn_app (goodIn_of _ (by decide +kernel)) ggX6_free_X5_passYear
set_option maxRecDepth 20000 in
theorem ggX6_holds_X6_isDepth : GoodIn wsX6_holds wsX6_isDepth := goodIn_r _ [11] (by decide +kernel) (by decide +kernel)
set_option maxRecDepth 20000 in
theorem gX6_holds_X6_isDepth : GoodIn wsX6_holds (va_wsS RX6 165 yX6_isDepth wsX6_isDepth) := goodIn_app (goodIn_of _ (by decide +kernel)) ggX6_holds_X6_isDepth
set_option maxRecDepth 20000 in
theorem ggX6_holds_X6_isForetold : GoodIn wsX6_holds wsX6_isForetold := goodIn_r _ [14, 15, 16, 10, 17] (by decide +kernel) (by decide +kernel)
set_option maxRecDepth 20000 in
theorem gX6_holds_X6_isForetold : GoodIn wsX6_holds (va_wsS RX6 227 yX6_isForetold wsX6_isForetold) := goodIn_app (goodIn_of _ (by decide +kernel)) ggX6_holds_X6_isForetold
set_option maxRecDepth 20000 in
theorem ggX6_holds_X5_become : GoodIn wsX6_holds wsX5_become := goodIn_r _ [22, 23, 24, 25, 26, 27, 28, 29, 30, 31, 32, 33, 34, 35, 36, 37, 38, 100, 101, 102, 103, 104, 105, 106, 107, 108, 109, 110, 111] (by decide +kernel) (by decide +kernel)
set_option maxRecDepth 20000 in
theorem gX6_holds_X5_become : GoodIn wsX6_holds (wsV RX6 127 RX5 yX5_become wsX5_become) := goodIn_app (goodIn_of _ (by decide +kernel)) ggX6_holds_X5_become
set_option maxRecDepth 20000 in
theorem ggX6_holds_X5_addCut : GoodIn wsX6_holds wsX5_addCut := goodIn_r _ [42, 27, 35, 36, 37, 38, 100, 101, 102, 103, 104, 105, 106, 107, 108, 109, 110, 111] (by decide +kernel) (by decide +kernel)
set_option maxRecDepth 20000 in
theorem gX6_holds_X5_addCut : GoodIn wsX6_holds (wsV RX6 171 RX5 yX5_addCut wsX5_addCut) := goodIn_app (goodIn_of _ (by decide +kernel)) ggX6_holds_X5_addCut
set_option maxRecDepth 20000 in
theorem ggX6_holds_X6_treesOfPairsReadAsOne : GoodIn wsX6_holds wsX6_treesOfPairsReadAsOne := goodIn_r _ [46, 5, 7, 47, 48, 49, 21, 50, 24, 51, 52, 53, 54, 35, 38, 55, 56, 57, 58, 33, 59, 60, 61, 62, 37, 63, 64, 65, 66, 67, 68, 69, 90, 91, 92, 93, 94, 95, 96, 97, 98, 99, 100, 101, 102, 103, 104, 105, 106, 107, 108, 109, 110, 111] (by decide +kernel) (by decide +kernel)
set_option maxRecDepth 20000 in
theorem gX6_holds_X6_treesOfPairsReadAsOne : GoodIn wsX6_holds (wsV RX6 236 RX6 yX6_treesOfPairsReadAsOne wsX6_treesOfPairsReadAsOne) := goodIn_app (goodIn_of _ (by decide +kernel)) ggX6_holds_X6_treesOfPairsReadAsOne
set_option maxRecDepth 20000 in
theorem ggX6_holds_X5_passYear : GoodIn wsX6_holds wsX5_passYear := goodIn_r _ [73, 26, 33, 28, 25, 74, 75, 76, 21, 77, 67, 68, 65, 69, 78, 79, 80, 81, 34, 82, 83, 84, 85, 86, 87, 88, 89, 27, 35, 38, 100, 101, 102, 103, 104, 105, 106, 107, 108, 109, 110, 111] (by decide +kernel) (by decide +kernel)
set_option maxRecDepth 20000 in
theorem gX6_holds_X5_passYear : GoodIn wsX6_holds (wsV RX6 147 RX5 yX5_passYear wsX5_passYear) := goodIn_app (goodIn_of _ (by decide +kernel)) ggX6_holds_X5_passYear
set_option maxRecDepth 20000 in
theorem ggX6_deep_X5_hasTree : GoodIn wsX6_deep wsX5_hasTree := goodIn_r _ [11, 12, 13, 14, 15, 81, 82, 83, 84, 85, 86, 87, 88, 89, 90, 91, 92] (by decide +kernel) (by decide +kernel)
set_option maxRecDepth 20000 in
theorem gX6_deep_X5_hasTree : GoodIn wsX6_deep (wsV RX6 159 RX5 yX5_hasTree wsX5_hasTree) := goodIn_app (goodIn_of _ (by decide +kernel)) ggX6_deep_X5_hasTree
set_option maxRecDepth 20000 in
theorem ggX6_deep_X6_isForetold : GoodIn wsX6_deep wsX6_isForetold := goodIn_r _ [18, 19, 13, 14, 15] (by decide +kernel) (by decide +kernel)
set_option maxRecDepth 20000 in
theorem gX6_deep_X6_isForetold : GoodIn wsX6_deep (va_wsS RX6 227 yX6_isForetold wsX6_isForetold) := goodIn_app (goodIn_of _ (by decide +kernel)) ggX6_deep_X6_isForetold
set_option maxRecDepth 20000 in
theorem ggX6_deep_X5_become : GoodIn wsX6_deep wsX5_become := goodIn_r _ [23, 24, 25, 26, 12, 27, 28, 29, 30, 31, 32, 33, 34, 35, 36, 37, 38, 81, 82, 83, 84, 85, 86, 87, 88, 89, 90, 91, 92] (by decide +kernel) (by decide +kernel)
set_option maxRecDepth 20000 in
theorem gX6_deep_X5_become : GoodIn wsX6_deep (wsV RX6 127 RX5 yX5_become wsX5_become) := goodIn_app (goodIn_of _ (by decide +kernel)) ggX6_deep_X5_become
set_option maxRecDepth 20000 in
theorem ggX6_deep_X5_addCut : GoodIn wsX6_deep wsX5_addCut := goodIn_r _ [42, 27, 35, 36, 37, 38, 81, 82, 83, 84, 85, 86, 87, 88, 89, 90, 91, 92] (by decide +kernel) (by decide +kernel)
set_option maxRecDepth 20000 in
theorem gX6_deep_X5_addCut : GoodIn wsX6_deep (wsV RX6 171 RX5 yX5_addCut wsX5_addCut) := goodIn_app (goodIn_of _ (by decide +kernel)) ggX6_deep_X5_addCut
set_option maxRecDepth 20000 in
theorem ggX6_deep_X5_passYears : GoodIn wsX6_deep wsX5_passYears := goodIn_r _ [46, 47, 48, 49, 10, 50, 12, 33, 28, 26, 51, 52, 53, 54, 55, 56, 57, 58, 59, 60, 61, 62, 34, 63, 64, 65, 66, 67, 68, 69, 70, 27, 35, 38, 81, 82, 83, 84, 85, 86, 87, 88, 89, 90, 91, 92] (by decide +kernel) (by decide +kernel)
set_option maxRecDepth 20000 in
theorem gX6_deep_X5_passYears : GoodIn wsX6_deep (wsV RX6 239 RX5 yX5_passYears wsX5_passYears) := goodIn_app (goodIn_of _ (by decide +kernel)) ggX6_deep_X5_passYears
set_option maxRecDepth 20000 in
theorem ggX6_meet_X5_hasTree : GoodIn wsX6_meet wsX5_hasTree := goodIn_r _ [10, 11, 12, 13, 14, 51, 52, 53, 54, 55, 56, 57, 58, 59, 60, 61, 62] (by decide +kernel) (by decide +kernel)
set_option maxRecDepth 20000 in
theorem gX6_meet_X5_hasTree : GoodIn wsX6_meet (wsV RX6 159 RX5 yX5_hasTree wsX5_hasTree) := goodIn_app (goodIn_of _ (by decide +kernel)) ggX6_meet_X5_hasTree
set_option maxRecDepth 20000 in
theorem ggX6_meet_X6_isChoice : GoodIn wsX6_meet wsX6_isChoice := goodIn_r _ [17, 18, 12, 13, 14] (by decide +kernel) (by decide +kernel)
set_option maxRecDepth 20000 in
theorem gX6_meet_X6_isChoice : GoodIn wsX6_meet (va_wsS RX6 242 yX6_isChoice wsX6_isChoice) := goodIn_app (goodIn_of _ (by decide +kernel)) ggX6_meet_X6_isChoice
set_option maxRecDepth 20000 in
theorem ggX6_meet_X5_meetBehind : GoodIn wsX6_meet wsX5_meetBehind := goodIn_r _ [22, 23, 24, 25, 9, 26, 27, 28, 29, 30, 31, 32, 33, 34, 35, 36, 37, 38, 39, 40, 51, 52, 53, 54, 55, 56, 57, 58, 59, 60, 61, 62] (by decide +kernel) (by decide +kernel)
set_option maxRecDepth 20000 in
theorem gX6_meet_X5_meetBehind : GoodIn wsX6_meet (wsV RX6 245 RX5 yX5_meetBehind wsX5_meetBehind) := goodIn_app (goodIn_of _ (by decide +kernel)) ggX6_meet_X5_meetBehind
set_option maxRecDepth 20000 in
theorem ggX6_rings_X5_hasTree : GoodIn wsX6_rings wsX5_hasTree := goodIn_r _ [13, 14, 15, 16, 17, 97, 98, 99, 100, 101, 102, 103, 104, 105, 106, 107, 108] (by decide +kernel) (by decide +kernel)
set_option maxRecDepth 20000 in
theorem gX6_rings_X5_hasTree : GoodIn wsX6_rings (wsV RX6 159 RX5 yX5_hasTree wsX5_hasTree) := goodIn_app (goodIn_of _ (by decide +kernel)) ggX6_rings_X5_hasTree
set_option maxRecDepth 20000 in
theorem ggX6_rings_X6_isChoice : GoodIn wsX6_rings wsX6_isChoice := goodIn_r _ [20, 21, 15, 16, 17] (by decide +kernel) (by decide +kernel)
set_option maxRecDepth 20000 in
theorem gX6_rings_X6_isChoice : GoodIn wsX6_rings (va_wsS RX6 242 yX6_isChoice wsX6_isChoice) := goodIn_app (goodIn_of _ (by decide +kernel)) ggX6_rings_X6_isChoice
set_option maxRecDepth 20000 in
theorem ggX6_rings_X2_lookAt : GoodIn wsX6_rings wsX2_lookAt := goodIn_r _ [26, 27, 28, 29, 30, 31, 32, 33, 34, 35, 12, 36, 37, 38, 39, 40, 41, 42, 43, 44, 45, 46, 47, 48, 49, 50, 51, 52, 53, 54, 55, 7, 56, 57, 58, 59, 109, 97, 98, 99, 100, 101, 102, 103, 104, 105, 106, 107, 108] (by decide +kernel) (by decide +kernel)
set_option maxRecDepth 20000 in
theorem gX6_rings_X2_lookAt : GoodIn wsX6_rings (wsV RX6 248 RX2 yX2_lookAt wsX2_lookAt) := goodIn_app (goodIn_of _ (by decide +kernel)) ggX6_rings_X2_lookAt
set_option maxRecDepth 20000 in
theorem ggX6_rings_X5_readableOn : GoodIn wsX6_rings wsX5_readableOn := goodIn_r _ [63, 64, 42, 65, 66, 67, 12, 68, 43, 97, 98, 99, 100, 101, 102, 103, 104, 105, 106, 107, 108] (by decide +kernel) (by decide +kernel)
set_option maxRecDepth 20000 in
theorem gX6_rings_X5_readableOn : GoodIn wsX6_rings (wsV RX6 197 RX5 yX5_readableOn wsX5_readableOn) := goodIn_app (goodIn_of _ (by decide +kernel)) ggX6_rings_X5_readableOn
set_option maxRecDepth 20000 in
theorem ggX6_rings_X6_isIn : GoodIn wsX6_rings wsX6_isIn := goodIn_r _ [71] (by decide +kernel) (by decide +kernel)
set_option maxRecDepth 20000 in
theorem gX6_rings_X6_isIn : GoodIn wsX6_rings (va_wsS RX6 251 yX6_isIn wsX6_isIn) := goodIn_app (goodIn_of _ (by decide +kernel)) ggX6_rings_X6_isIn
set_option maxRecDepth 20000 in
theorem ggX6_rings_X2_reached : GoodIn wsX6_rings wsX2_reached := goodIn_r _ [75, 76, 77, 78, 25, 79, 27, 70, 16, 71, 109] (by decide +kernel) (by decide +kernel)
set_option maxRecDepth 20000 in
theorem gX6_rings_X2_reached : GoodIn wsX6_rings (wsV RX6 254 RX2 yX2_reached wsX2_reached) := goodIn_app (goodIn_of _ (by decide +kernel)) ggX6_rings_X2_reached
set_option maxRecDepth 20000 in
theorem ggX6_rings_J6_bitCount_0f7a4 : GoodIn wsX6_rings wsJ6_bitCount_0f7a4 := goodIn_r _ [83, 84, 85, 86] (by decide +kernel) (by decide +kernel)
set_option maxRecDepth 20000 in
theorem gX6_rings_J6_bitCount_0f7a4 : GoodIn wsX6_rings (va_wsS RX6 154 yJ6_bitCount_0f7a4 wsJ6_bitCount_0f7a4) := goodIn_app (goodIn_of _ (by decide +kernel)) ggX6_rings_J6_bitCount_0f7a4
set_option maxRecDepth 20000 in
theorem ggX6_gaps_X5_hasCut : GoodIn wsX6_gaps wsX5_hasCut := goodIn_r _ [10, 11, 12, 13, 14, 100, 101, 102, 103, 104, 105, 106, 107, 108, 109, 110, 111] (by decide +kernel) (by decide +kernel)
set_option maxRecDepth 20000 in
theorem gX6_gaps_X5_hasCut : GoodIn wsX6_gaps (wsV RX6 175 RX5 yX5_hasCut wsX5_hasCut) := goodIn_app (goodIn_of _ (by decide +kernel)) ggX6_gaps_X5_hasCut
set_option maxRecDepth 20000 in
theorem ggX6_gaps_X6_isRow : GoodIn wsX6_gaps wsX6_isRow := goodIn_r _ [17, 18, 12, 13, 14] (by decide +kernel) (by decide +kernel)
set_option maxRecDepth 20000 in
theorem gX6_gaps_X6_isRow : GoodIn wsX6_gaps (va_wsS RX6 58 yX6_isRow wsX6_isRow) := goodIn_app (goodIn_of _ (by decide +kernel)) ggX6_gaps_X6_isRow
set_option maxRecDepth 20000 in
theorem ggX6_gaps_X6_isTold : GoodIn wsX6_gaps wsX6_isTold := goodIn_r _ [21] (by decide +kernel) (by decide +kernel)
set_option maxRecDepth 20000 in
theorem gX6_gaps_X6_isTold : GoodIn wsX6_gaps (va_wsS RX6 262 yX6_isTold wsX6_isTold) := goodIn_app (goodIn_of _ (by decide +kernel)) ggX6_gaps_X6_isTold
set_option maxRecDepth 20000 in
theorem ggX6_gaps_X6_findingIn : GoodIn wsX6_gaps wsX6_findingIn := goodIn_r _ [24, 25, 26, 27, 28, 29, 30, 31, 112, 113, 114, 115] (by decide +kernel) (by decide +kernel)
set_option maxRecDepth 20000 in
theorem gX6_gaps_X6_findingIn : GoodIn wsX6_gaps (va_wsS RX6 74 yX6_findingIn wsX6_findingIn) := goodIn_app (goodIn_of _ (by decide +kernel)) ggX6_gaps_X6_findingIn
set_option maxRecDepth 20000 in
theorem ggX6_gaps_X6_found : GoodIn wsX6_gaps wsX6_found := goodIn_r _ [35, 36, 37, 90, 91, 92, 93, 94, 95, 96, 97, 98, 99] (by decide +kernel) (by decide +kernel)
set_option maxRecDepth 20000 in
theorem gX6_gaps_X6_found : GoodIn wsX6_gaps (wsV RX6 63 RX6 yX6_found wsX6_found) := goodIn_app (goodIn_of _ (by decide +kernel)) ggX6_gaps_X6_found
set_option maxRecDepth 20000 in
theorem ggX6_gaps_X5_become : GoodIn wsX6_gaps wsX5_become := goodIn_r _ [41, 42, 43, 44, 45, 11, 46, 47, 48, 49, 50, 51, 52, 53, 54, 55, 56, 100, 101, 102, 103, 104, 105, 106, 107, 108, 109, 110, 111] (by decide +kernel) (by decide +kernel)
set_option maxRecDepth 20000 in
theorem gX6_gaps_X5_become : GoodIn wsX6_gaps (wsV RX6 127 RX5 yX5_become wsX5_become) := goodIn_app (goodIn_of _ (by decide +kernel)) ggX6_gaps_X5_become
set_option maxRecDepth 20000 in
theorem ggX6_gaps_X6_goesSo : GoodIn wsX6_gaps wsX6_goesSo := goodIn_r _ [60, 4, 61, 62, 63, 64, 9, 65, 45, 51, 46, 44, 66, 67, 68, 69, 70, 71, 72, 73, 74, 75, 76, 77, 52, 78, 79, 80, 81, 82, 83, 84, 85, 11, 53, 56, 90, 91, 92, 93, 94, 95, 96, 97, 98, 99, 112, 113, 114, 115, 100, 101, 102, 103, 104, 105, 106, 107, 108, 109, 110, 111] (by decide +kernel) (by decide +kernel)
set_option maxRecDepth 20000 in
theorem gX6_gaps_X6_goesSo : GoodIn wsX6_gaps (wsV RX6 265 RX6 yX6_goesSo wsX6_goesSo) := goodIn_app (goodIn_of _ (by decide +kernel)) ggX6_gaps_X6_goesSo
set_option maxRecDepth 20000 in
theorem ggX6_gaps_X6_foundNothing : GoodIn wsX6_gaps wsX6_foundNothing := goodIn_r _ [89, 36, 90, 91, 92, 93, 94, 95, 96, 97, 98, 99] (by decide +kernel) (by decide +kernel)
set_option maxRecDepth 20000 in
theorem gX6_gaps_X6_foundNothing : GoodIn wsX6_gaps (wsV RX6 71 RX6 yX6_foundNothing wsX6_foundNothing) := goodIn_app (goodIn_of _ (by decide +kernel)) ggX6_gaps_X6_foundNothing
set_option maxRecDepth 20000 in
theorem ggX6_which_X5_hasTree : GoodIn wsX6_which wsX5_hasTree := goodIn_r _ [8, 9, 10, 11, 12, 113, 114, 115, 116, 117, 118, 119, 120, 121, 122, 123, 124] (by decide +kernel) (by decide +kernel)
set_option maxRecDepth 20000 in
theorem gX6_which_X5_hasTree : GoodIn wsX6_which (wsV RX6 159 RX5 yX5_hasTree wsX5_hasTree) := goodIn_app (goodIn_of _ (by decide +kernel)) ggX6_which_X5_hasTree
set_option maxRecDepth 20000 in
theorem ggX6_which_X6_isRow : GoodIn wsX6_which wsX6_isRow := goodIn_r _ [15, 16, 10, 11, 12] (by decide +kernel) (by decide +kernel)
set_option maxRecDepth 20000 in
theorem gX6_which_X6_isRow : GoodIn wsX6_which (va_wsS RX6 58 yX6_isRow wsX6_isRow) := goodIn_app (goodIn_of _ (by decide +kernel)) ggX6_which_X6_isRow
set_option maxRecDepth 20000 in
theorem ggX6_which_X6_isTold : GoodIn wsX6_which wsX6_isTold := goodIn_r _ [19] (by decide +kernel) (by decide +kernel)
set_option maxRecDepth 20000 in
theorem gX6_which_X6_isTold : GoodIn wsX6_which (va_wsS RX6 262 yX6_isTold wsX6_isTold) := goodIn_app (goodIn_of _ (by decide +kernel)) ggX6_which_X6_isTold
set_option maxRecDepth 20000 in
theorem ggX6_which_X6_isChoice : GoodIn wsX6_which wsX6_isChoice := goodIn_r _ [22, 16, 10, 11, 12] (by decide +kernel) (by decide +kernel)
set_option maxRecDepth 20000 in
theorem gX6_which_X6_isChoice : GoodIn wsX6_which (va_wsS RX6 242 yX6_isChoice wsX6_isChoice) := goodIn_app (goodIn_of _ (by decide +kernel)) ggX6_which_X6_isChoice
set_option maxRecDepth 20000 in
theorem ggX6_which_X6_findingIn : GoodIn wsX6_which wsX6_findingIn := goodIn_r _ [25, 26, 27, 28, 29, 30, 31, 32, 125, 126, 127, 128] (by decide +kernel) (by decide +kernel)
set_option maxRecDepth 20000 in
theorem gX6_which_X6_findingIn : GoodIn wsX6_which (va_wsS RX6 74 yX6_findingIn wsX6_findingIn) := goodIn_app (goodIn_of _ (by decide +kernel)) ggX6_which_X6_findingIn
set_option maxRecDepth 20000 in
theorem ggX6_which_X6_found : GoodIn wsX6_which wsX6_found := goodIn_r _ [36, 37, 38, 103, 104, 105, 106, 107, 108, 109, 110, 111, 112] (by decide +kernel) (by decide +kernel)
set_option maxRecDepth 20000 in
theorem gX6_which_X6_found : GoodIn wsX6_which (wsV RX6 63 RX6 yX6_found wsX6_found) := goodIn_app (goodIn_of _ (by decide +kernel)) ggX6_which_X6_found
set_option maxRecDepth 20000 in
theorem ggX6_which_X6_kindsThatGoSo : GoodIn wsX6_which wsX6_kindsThatGoSo := goodIn_r _ [42, 43, 1, 44, 45, 46, 47, 48, 7, 49, 50, 51, 52, 9, 53, 54, 55, 56, 57, 58, 59, 60, 61, 62, 63, 64, 65, 66, 67, 11, 68, 69, 70, 71, 72, 73, 74, 75, 76, 77, 78, 79, 80, 81, 82, 83, 84, 85, 86, 87, 88, 89, 90, 91, 92, 93, 103, 104, 105, 106, 107, 108, 109, 110, 111, 112, 113, 114, 115, 116, 117, 118, 119, 120, 121, 122, 123, 124, 125, 126, 127, 128] (by decide +kernel) (by decide +kernel)
set_option maxRecDepth 20000 in
theorem gX6_which_X6_kindsThatGoSo : GoodIn wsX6_which (wsV RX6 269 RX6 yX6_kindsThatGoSo wsX6_kindsThatGoSo) := goodIn_app (goodIn_of _ (by decide +kernel)) ggX6_which_X6_kindsThatGoSo
set_option maxRecDepth 20000 in
theorem ggX6_which_X6_sunsThatGoSo : GoodIn wsX6_which wsX6_sunsThatGoSo := goodIn_r _ [97, 43, 1, 98, 45, 46, 47, 48, 7, 49, 50, 51, 52, 9, 53, 54, 55, 56, 57, 58, 59, 60, 61, 62, 63, 64, 65, 66, 67, 11, 68, 69, 70, 71, 72, 73, 74, 75, 76, 77, 78, 79, 80, 81, 82, 83, 84, 85, 86, 87, 88, 89, 90, 91, 92, 93, 103, 104, 105, 106, 107, 108, 109, 110, 111, 112, 113, 114, 115, 116, 117, 118, 119, 120, 121, 122, 123, 124, 125, 126, 127, 128] (by decide +kernel) (by decide +kernel)
set_option maxRecDepth 20000 in
theorem gX6_which_X6_sunsThatGoSo : GoodIn wsX6_which (wsV RX6 273 RX6 yX6_sunsThatGoSo wsX6_sunsThatGoSo) := goodIn_app (goodIn_of _ (by decide +kernel)) ggX6_which_X6_sunsThatGoSo
set_option maxRecDepth 20000 in
theorem ggX6_which_X6_foundNothing : GoodIn wsX6_which wsX6_foundNothing := goodIn_r _ [102, 37, 103, 104, 105, 106, 107, 108, 109, 110, 111, 112] (by decide +kernel) (by decide +kernel)
set_option maxRecDepth 20000 in
theorem gX6_which_X6_foundNothing : GoodIn wsX6_which (wsV RX6 71 RX6 yX6_foundNothing wsX6_foundNothing) := goodIn_app (goodIn_of _ (by decide +kernel)) ggX6_which_X6_foundNothing
set_option maxRecDepth 20000 in
theorem ggX6_storm_X6_isPair : GoodIn wsX6_storm wsX6_isPair := goodIn_r _ [8, 2, 3, 9, 10, 11, 12, 13, 14, 15, 7, 16, 101, 102, 103, 104, 105, 106, 107, 108, 109, 110, 111, 112, 113, 114, 115, 116, 117, 118, 119, 120, 121, 122] (by decide +kernel) (by decide +kernel)
set_option maxRecDepth 20000 in
theorem gX6_storm_X6_isPair : GoodIn wsX6_storm (wsV RX6 220 RX6 yX6_isPair wsX6_isPair) := goodIn_app (goodIn_of _ (by decide +kernel)) ggX6_storm_X6_isPair
set_option maxRecDepth 20000 in
theorem ggX6_storm_X6_isChoice : GoodIn wsX6_storm wsX6_isChoice := goodIn_r _ [19, 20, 15, 7, 16] (by decide +kernel) (by decide +kernel)
set_option maxRecDepth 20000 in
theorem gX6_storm_X6_isChoice : GoodIn wsX6_storm (va_wsS RX6 242 yX6_isChoice wsX6_isChoice) := goodIn_app (goodIn_of _ (by decide +kernel)) ggX6_storm_X6_isChoice
set_option maxRecDepth 20000 in
theorem ggX6_storm_X6_stormWays : GoodIn wsX6_storm wsX6_stormWays := goodIn_r _ [24, 25, 2, 3, 26, 27, 28, 29, 30, 31, 32, 33, 34, 35, 36, 37, 38, 39, 12, 40, 41, 42, 43, 44, 45, 46, 47, 48, 49, 50, 51, 52, 53, 54, 55, 56, 57, 58, 59, 60, 61, 62, 63, 64, 65, 66, 67, 68, 14, 69, 70, 71, 72, 73, 74, 7, 75, 76, 77, 78, 79, 80, 81, 82, 83, 84, 85, 86, 87, 88, 89, 90, 91, 92, 93, 101, 102, 103, 104, 105, 106, 107, 108, 109, 110, 111, 112, 113, 114, 115, 116, 117, 118, 119, 120, 121, 122, 123] (by decide +kernel) (by decide +kernel)
set_option maxRecDepth 20000 in
theorem gX6_storm_X6_stormWays : GoodIn wsX6_storm (wsV RX6 276 RX6 yX6_stormWays wsX6_stormWays) := goodIn_app (goodIn_of _ (by decide +kernel)) ggX6_storm_X6_stormWays
set_option maxRecDepth 20000 in
theorem ggX6_storm_X5_readableOn : GoodIn wsX6_storm wsX5_readableOn := goodIn_r _ [68, 14, 46, 69, 70, 71, 12, 72, 47, 111, 112, 113, 114, 115, 116, 117, 118, 119, 120, 121, 122] (by decide +kernel) (by decide +kernel)
set_option maxRecDepth 20000 in
theorem gX6_storm_X5_readableOn : GoodIn wsX6_storm (wsV RX6 197 RX5 yX5_readableOn wsX5_readableOn) := goodIn_app (goodIn_of _ (by decide +kernel)) ggX6_storm_X5_readableOn
set_option maxRecDepth 20000 in
theorem ggX6_storm_J6_bitCount_0f7a4 : GoodIn wsX6_storm wsJ6_bitCount_0f7a4 := goodIn_r _ [87, 88, 89, 90] (by decide +kernel) (by decide +kernel)
set_option maxRecDepth 20000 in
theorem gX6_storm_J6_bitCount_0f7a4 : GoodIn wsX6_storm (va_wsS RX6 154 yJ6_bitCount_0f7a4 wsJ6_bitCount_0f7a4) := goodIn_app (goodIn_of _ (by decide +kernel)) ggX6_storm_J6_bitCount_0f7a4
set_option maxRecDepth 20000 in
theorem ggX6_storm_X6_power : GoodIn wsX6_storm wsX6_power := goodIn_r _ [93] (by decide +kernel) (by decide +kernel)
set_option maxRecDepth 20000 in
theorem gX6_storm_X6_power : GoodIn wsX6_storm (va_wsS RX6 280 yX6_power wsX6_power) := goodIn_app (goodIn_of _ (by decide +kernel)) ggX6_storm_X6_power
set_option maxRecDepth 20000 in
theorem ggX6_storm_X6_greatestDivisor : GoodIn wsX6_storm wsX6_greatestDivisor := goodIn_r _ [96, 97, 98, 60, 99, 100, 63, 64] (by decide +kernel) (by decide +kernel)
set_option maxRecDepth 20000 in
theorem gX6_storm_X6_greatestDivisor : GoodIn wsX6_storm (va_wsS RX6 283 yX6_greatestDivisor wsX6_greatestDivisor) := goodIn_app (goodIn_of _ (by decide +kernel)) ggX6_storm_X6_greatestDivisor
set_option maxRecDepth 20000 in
theorem ggX6_image_X6_isBelow : GoodIn wsX6_image wsX6_isBelow := goodIn_r _ [9] (by decide +kernel) (by decide +kernel)
set_option maxRecDepth 20000 in
theorem gX6_image_X6_isBelow : GoodIn wsX6_image (va_wsS RX6 162 yX6_isBelow wsX6_isBelow) := goodIn_app (goodIn_of _ (by decide +kernel)) ggX6_image_X6_isBelow
set_option maxRecDepth 20000 in
theorem ggX6_image_X5_become : GoodIn wsX6_image wsX5_become := goodIn_r _ [14, 15, 16, 17, 18, 19, 20, 21, 22, 23, 24, 25, 26, 27, 28, 29, 30, 41, 42, 43, 44, 45, 46, 47, 48, 49, 50, 51, 52] (by decide +kernel) (by decide +kernel)
set_option maxRecDepth 20000 in
theorem gX6_image_X5_become : GoodIn wsX6_image (wsV RX6 127 RX5 yX5_become wsX5_become) := goodIn_app (goodIn_of _ (by decide +kernel)) ggX6_image_X5_become
set_option maxRecDepth 20000 in
theorem ggX6_restore_X6_isBelow : GoodIn wsX6_restore wsX6_isBelow := goodIn_r _ [10] (by decide +kernel) (by decide +kernel)
set_option maxRecDepth 20000 in
theorem gX6_restore_X6_isBelow : GoodIn wsX6_restore (va_wsS RX6 162 yX6_isBelow wsX6_isBelow) := goodIn_app (goodIn_of _ (by decide +kernel)) ggX6_restore_X6_isBelow
set_option maxRecDepth 20000 in
theorem ggX6_restore_X5_become : GoodIn wsX6_restore wsX5_become := goodIn_r _ [15, 16, 17, 18, 19, 20, 21, 22, 23, 24, 25, 26, 27, 28, 29, 30, 31, 48, 49, 50, 51, 52, 53, 54, 55, 56, 57, 58, 59] (by decide +kernel) (by decide +kernel)
set_option maxRecDepth 20000 in
theorem gX6_restore_X5_become : GoodIn wsX6_restore (wsV RX6 127 RX5 yX5_become wsX5_become) := goodIn_app (goodIn_of _ (by decide +kernel)) ggX6_restore_X5_become
set_option maxRecDepth 20000 in
theorem ggX6_restore_X1_forget : GoodIn wsX6_restore wsX1_forget := goodIn_r _ [36, 37, 60, 61, 62] (by decide +kernel) (by decide +kernel)
set_option maxRecDepth 20000 in
theorem gX6_restore_X1_forget : GoodIn wsX6_restore (wsV RX6 131 RX1 yX1_forget wsX1_forget) := goodIn_app (goodIn_of _ (by decide +kernel)) ggX6_restore_X1_forget
set_option maxRecDepth 20000 in
theorem ggX6_kind_X5_hasTree : GoodIn wsX6_kind wsX5_hasTree := goodIn_r _ [8, 9, 10, 11, 12, 23, 24, 25, 26, 27, 28, 29, 30, 31, 32, 33, 34] (by decide +kernel) (by decide +kernel)
set_option maxRecDepth 20000 in
theorem gX6_kind_X5_hasTree : GoodIn wsX6_kind (wsV RX6 159 RX5 yX5_hasTree wsX5_hasTree) := goodIn_app (goodIn_of _ (by decide +kernel)) ggX6_kind_X5_hasTree
set_option maxRecDepth 20000 in
theorem ggX6_as_X5_hasTree : GoodIn wsX6_as wsX5_hasTree := goodIn_r _ [9, 10, 11, 12, 13, 38, 39, 40, 41, 42, 43, 44, 45, 46, 47, 48, 49] (by decide +kernel) (by decide +kernel)
set_option maxRecDepth 20000 in
theorem gX6_as_X5_hasTree : GoodIn wsX6_as (wsV RX6 159 RX5 yX5_hasTree wsX5_hasTree) := goodIn_app (goodIn_of _ (by decide +kernel)) ggX6_as_X5_hasTree
set_option maxRecDepth 20000 in
theorem ggX6_as_X6_isBelow : GoodIn wsX6_as wsX6_isBelow := goodIn_r _ [13] (by decide +kernel) (by decide +kernel)
set_option maxRecDepth 20000 in
theorem gX6_as_X6_isBelow : GoodIn wsX6_as (va_wsS RX6 162 yX6_isBelow wsX6_isBelow) := goodIn_app (goodIn_of _ (by decide +kernel)) ggX6_as_X6_isBelow
set_option maxRecDepth 20000 in
theorem ggX6_as_X6_isOfKind : GoodIn wsX6_as wsX6_isOfKind := goodIn_r _ [17, 2] (by decide +kernel) (by decide +kernel)
set_option maxRecDepth 20000 in
theorem gX6_as_X6_isOfKind : GoodIn wsX6_as (va_wsS RX6 292 yX6_isOfKind wsX6_isOfKind) := goodIn_app (goodIn_of _ (by decide +kernel)) ggX6_as_X6_isOfKind
set_option maxRecDepth 20000 in
theorem ggX6_as_X6_foundNothing : GoodIn wsX6_as wsX6_foundNothing := goodIn_r _ [21, 22, 28, 29, 30, 31, 32, 33, 34, 35, 36, 37] (by decide +kernel) (by decide +kernel)
set_option maxRecDepth 20000 in
theorem gX6_as_X6_foundNothing : GoodIn wsX6_as (wsV RX6 71 RX6 yX6_foundNothing wsX6_foundNothing) := goodIn_app (goodIn_of _ (by decide +kernel)) ggX6_as_X6_foundNothing
set_option maxRecDepth 20000 in
theorem ggX6_as_X6_found : GoodIn wsX6_as wsX6_found := goodIn_r _ [26, 22, 27, 28, 29, 30, 31, 32, 33, 34, 35, 36, 37] (by decide +kernel) (by decide +kernel)
set_option maxRecDepth 20000 in
theorem gX6_as_X6_found : GoodIn wsX6_as (wsV RX6 63 RX6 yX6_found wsX6_found) := goodIn_app (goodIn_of _ (by decide +kernel)) ggX6_as_X6_found
set_option maxRecDepth 20000 in
theorem ggX6_ask_X5_hasTree : GoodIn wsX6_ask wsX5_hasTree := goodIn_r _ [9, 10, 11, 12, 13, 63, 64, 65, 66, 67, 68, 69, 70, 71, 72, 73, 74] (by decide +kernel) (by decide +kernel)
set_option maxRecDepth 20000 in
theorem gX6_ask_X5_hasTree : GoodIn wsX6_ask (wsV RX6 159 RX5 yX5_hasTree wsX5_hasTree) := goodIn_app (goodIn_of _ (by decide +kernel)) ggX6_ask_X5_hasTree
set_option maxRecDepth 20000 in
theorem ggX6_ask_X6_isChoice : GoodIn wsX6_ask wsX6_isChoice := goodIn_r _ [16, 17, 11, 12, 13] (by decide +kernel) (by decide +kernel)
set_option maxRecDepth 20000 in
theorem gX6_ask_X6_isChoice : GoodIn wsX6_ask (va_wsS RX6 242 yX6_isChoice wsX6_isChoice) := goodIn_app (goodIn_of _ (by decide +kernel)) ggX6_ask_X6_isChoice
set_option maxRecDepth 20000 in
theorem ggX6_ask_X0_sizeOf : GoodIn wsX6_ask wsX0_sizeOf := goodIn_r _ [22, 23, 24, 12, 25, 26, 27, 28, 29, 21, 30, 31, 32, 33, 34, 35, 36, 37, 38, 39, 40, 41, 42, 43, 44, 45, 46, 63, 64, 65, 66, 67, 68, 69, 70, 71, 72, 73, 74, 61, 62] (by decide +kernel) (by decide +kernel)
set_option maxRecDepth 20000 in
theorem gX6_ask_X0_sizeOf : GoodIn wsX6_ask (wsV RX6 298 RX0 yX0_sizeOf wsX0_sizeOf) := goodIn_app (goodIn_of _ (by decide +kernel)) ggX6_ask_X0_sizeOf
set_option maxRecDepth 20000 in
theorem ggX6_ask_X0_markOf : GoodIn wsX6_ask wsX0_markOf := goodIn_r _ [50, 23, 24, 12, 25, 26, 38, 39, 40, 21, 41, 42, 32, 33, 34, 35, 36, 37, 43, 44, 45, 46, 31, 63, 64, 65, 66, 67, 68, 69, 70, 71, 72, 73, 74, 61, 62] (by decide +kernel) (by decide +kernel)
set_option maxRecDepth 20000 in
theorem gX6_ask_X0_markOf : GoodIn wsX6_ask (wsV RX6 302 RX0 yX0_markOf wsX0_markOf) := goodIn_app (goodIn_of _ (by decide +kernel)) ggX6_ask_X0_markOf
set_option maxRecDepth 20000 in
theorem ggX6_trace_X6_isBelow : GoodIn wsX6_trace wsX6_isBelow := goodIn_r _ [8] (by decide +kernel) (by decide +kernel)
set_option maxRecDepth 20000 in
theorem gX6_trace_X6_isBelow : GoodIn wsX6_trace (va_wsS RX6 162 yX6_isBelow wsX6_isBelow) := goodIn_app (goodIn_of _ (by decide +kernel)) ggX6_trace_X6_isBelow
set_option maxRecDepth 20000 in
theorem ggX6_count_X6_rowsThere : GoodIn wsX6_count wsX6_rowsThere := goodIn_r _ [15, 16, 17, 32, 33, 34, 35, 36, 37, 38, 39, 40, 41, 62, 63, 64, 65] (by decide +kernel) (by decide +kernel)
set_option maxRecDepth 20000 in
theorem gX6_count_X6_rowsThere : GoodIn wsX6_count (wsV RX6 308 RX6 yX6_rowsThere wsX6_rowsThere) := goodIn_app (goodIn_of _ (by decide +kernel)) ggX6_count_X6_rowsThere
set_option maxRecDepth 20000 in
theorem ggX6_count_X5_readable : GoodIn wsX6_count wsX5_readable := goodIn_r _ [22, 23, 24, 42, 43, 44, 45, 46, 47, 48, 49, 50, 51, 52, 53] (by decide +kernel) (by decide +kernel)
set_option maxRecDepth 20000 in
theorem gX6_count_X5_readable : GoodIn wsX6_count (wsV RX6 150 RX5 yX5_readable wsX5_readable) := goodIn_app (goodIn_of _ (by decide +kernel)) ggX6_count_X5_readable
set_option maxRecDepth 20000 in
theorem ggX6_count_J6_bitCount_0f7a4 : GoodIn wsX6_count wsJ6_bitCount_0f7a4 := goodIn_r _ [28, 29, 30, 31] (by decide +kernel) (by decide +kernel)
set_option maxRecDepth 20000 in
theorem gX6_count_J6_bitCount_0f7a4 : GoodIn wsX6_count (va_wsS RX6 154 yJ6_bitCount_0f7a4 wsJ6_bitCount_0f7a4) := goodIn_app (goodIn_of _ (by decide +kernel)) ggX6_count_J6_bitCount_0f7a4
set_option maxRecDepth 20000 in
theorem ggX6_isRow_X6_isBelow : GoodIn wsX6_isRow wsX6_isBelow := goodIn_r _ [4] (by decide +kernel) (by decide +kernel)
set_option maxRecDepth 20000 in
theorem gX6_isRow_X6_isBelow : GoodIn wsX6_isRow (va_wsS RX6 162 yX6_isBelow wsX6_isBelow) := goodIn_app (goodIn_of _ (by decide +kernel)) ggX6_isRow_X6_isBelow
set_option maxRecDepth 20000 in
theorem ggX6_isForetold_X6_isBelow : GoodIn wsX6_isForetold wsX6_isBelow := goodIn_r _ [4] (by decide +kernel) (by decide +kernel)
set_option maxRecDepth 20000 in
theorem gX6_isForetold_X6_isBelow : GoodIn wsX6_isForetold (va_wsS RX6 162 yX6_isBelow wsX6_isBelow) := goodIn_app (goodIn_of _ (by decide +kernel)) ggX6_isForetold_X6_isBelow
set_option maxRecDepth 20000 in
theorem ggX6_isChoice_X6_isBelow : GoodIn wsX6_isChoice wsX6_isBelow := goodIn_r _ [4] (by decide +kernel) (by decide +kernel)
set_option maxRecDepth 20000 in
theorem gX6_isChoice_X6_isBelow : GoodIn wsX6_isChoice (va_wsS RX6 162 yX6_isBelow wsX6_isBelow) := goodIn_app (goodIn_of _ (by decide +kernel)) ggX6_isChoice_X6_isBelow
set_option maxRecDepth 20000 in
theorem ggX6_isPair_X5_hasCut : GoodIn wsX6_isPair wsX5_hasCut := goodIn_r _ [7, 8, 9, 10, 11, 22, 23, 24, 25, 26, 27, 28, 29, 30, 31, 32, 33] (by decide +kernel) (by decide +kernel)
set_option maxRecDepth 20000 in
theorem gX6_isPair_X5_hasCut : GoodIn wsX6_isPair (wsV RX6 175 RX5 yX5_hasCut wsX5_hasCut) := goodIn_app (goodIn_of _ (by decide +kernel)) ggX6_isPair_X5_hasCut
set_option maxRecDepth 20000 in
theorem ggX6_findingIn_X3_spans : GoodIn wsX6_findingIn wsX3_spans := goodIn_r _ [6, 7, 8, 9, 10, 11] (by decide +kernel) (by decide +kernel)
set_option maxRecDepth 20000 in
theorem gX6_findingIn_X3_spans : GoodIn wsX6_findingIn (wsV RX6 93 RX3 yX3_spans wsX3_spans) := goodIn_app (goodIn_of _ (by decide +kernel)) ggX6_findingIn_X3_spans
set_option maxRecDepth 20000 in
theorem ggX6_foretell_X5_become : GoodIn wsX6_foretell wsX5_become := goodIn_r _ [7, 8, 9, 10, 11, 12, 13, 14, 15, 16, 17, 18, 19, 20, 21, 22, 23, 62, 63, 64, 65, 66, 67, 68, 69, 70, 71, 72, 73] (by decide +kernel) (by decide +kernel)
set_option maxRecDepth 20000 in
theorem gX6_foretell_X5_become : GoodIn wsX6_foretell (wsV RX6 127 RX5 yX5_become wsX5_become) := goodIn_app (goodIn_of _ (by decide +kernel)) ggX6_foretell_X5_become
set_option maxRecDepth 20000 in
theorem ggX6_foretell_X5_passYears : GoodIn wsX6_foretell wsX5_passYears := goodIn_r _ [27, 28, 29, 30, 6, 31, 11, 18, 13, 10, 32, 33, 34, 35, 36, 37, 38, 39, 40, 41, 42, 43, 19, 44, 45, 46, 47, 48, 49, 50, 51, 12, 20, 23, 62, 63, 64, 65, 66, 67, 68, 69, 70, 71, 72, 73] (by decide +kernel) (by decide +kernel)
set_option maxRecDepth 20000 in
theorem gX6_foretell_X5_passYears : GoodIn wsX6_foretell (wsV RX6 239 RX5 yX5_passYears wsX5_passYears) := goodIn_app (goodIn_of _ (by decide +kernel)) ggX6_foretell_X5_passYears
set_option maxRecDepth 20000 in
theorem ggX6_areTogether_X2_lookAt : GoodIn wsX6_areTogether wsX2_lookAt := goodIn_r _ [6, 7, 8, 9, 10, 11, 12, 13, 14, 15, 16, 17, 18, 19, 20, 21, 22, 23, 24, 25, 26, 27, 28, 29, 30, 31, 32, 33, 34, 35, 36, 37, 38, 39, 40, 41, 64, 65, 66, 67, 68, 69, 70, 71, 72, 73, 74, 75, 76] (by decide +kernel) (by decide +kernel)
set_option maxRecDepth 20000 in
theorem gX6_areTogether_X2_lookAt : GoodIn wsX6_areTogether (wsV RX6 248 RX2 yX2_lookAt wsX2_lookAt) := goodIn_app (goodIn_of _ (by decide +kernel)) ggX6_areTogether_X2_lookAt
set_option maxRecDepth 20000 in
theorem ggX6_areTogether_X2_reached : GoodIn wsX6_areTogether wsX2_reached := goodIn_r _ [45, 46, 47, 48, 5, 49, 7, 50, 51, 52, 64] (by decide +kernel) (by decide +kernel)
set_option maxRecDepth 20000 in
theorem gX6_areTogether_X2_reached : GoodIn wsX6_areTogether (wsV RX6 254 RX2 yX2_reached wsX2_reached) := goodIn_app (goodIn_of _ (by decide +kernel)) ggX6_areTogether_X2_reached
set_option maxRecDepth 20000 in
theorem ggX6_areTogether_X6_isIn : GoodIn wsX6_areTogether wsX6_isIn := goodIn_r _ [52] (by decide +kernel) (by decide +kernel)
set_option maxRecDepth 20000 in
theorem gX6_areTogether_X6_isIn : GoodIn wsX6_areTogether (va_wsS RX6 251 yX6_isIn wsX6_isIn) := goodIn_app (goodIn_of _ (by decide +kernel)) ggX6_areTogether_X6_isIn
set_option maxRecDepth 20000 in
theorem ggX6_treesOfPairsReadAsOne_X5_readAsOne : GoodIn wsX6_treesOfPairsReadAsOne wsX5_readAsOne := goodIn_r _ [7, 8, 9, 10, 11, 6, 12, 13, 14, 15, 16, 17, 18, 19, 20, 21, 22, 23, 24, 25, 26, 27, 28, 29, 30, 31, 42, 43, 44, 45, 46, 47, 48, 49, 50, 51, 52, 53] (by decide +kernel) (by decide +kernel)
set_option maxRecDepth 20000 in
theorem gX6_treesOfPairsReadAsOne_X5_readAsOne : GoodIn wsX6_treesOfPairsReadAsOne (wsV RX6 318 RX5 yX5_readAsOne wsX5_readAsOne) := goodIn_app (goodIn_of _ (by decide +kernel)) ggX6_treesOfPairsReadAsOne_X5_readAsOne
set_option maxRecDepth 20000 in
theorem ggX6_goesSo_X5_passYear : GoodIn wsX6_goesSo wsX5_passYear := goodIn_r _ [7, 8, 9, 10, 11, 12, 13, 14, 6, 15, 16, 17, 18, 19, 20, 21, 22, 23, 24, 25, 26, 27, 28, 29, 30, 31, 32, 33, 34, 35, 50, 51, 52, 53, 54, 55, 56, 57, 58, 59, 60, 61] (by decide +kernel) (by decide +kernel)
set_option maxRecDepth 20000 in
theorem gX6_goesSo_X5_passYear : GoodIn wsX6_goesSo (wsV RX6 147 RX5 yX5_passYear wsX5_passYear) := goodIn_app (goodIn_of _ (by decide +kernel)) ggX6_goesSo_X5_passYear
set_option maxRecDepth 20000 in
theorem ggX6_kindsThatGoSo_X5_become : GoodIn wsX6_kindsThatGoSo wsX5_become := goodIn_r _ [9, 10, 11, 12, 13, 14, 15, 16, 17, 18, 19, 20, 21, 22, 23, 24, 25, 66, 67, 68, 69, 70, 71, 72, 73, 74, 75, 76, 77] (by decide +kernel) (by decide +kernel)
set_option maxRecDepth 20000 in
theorem gX6_kindsThatGoSo_X5_become : GoodIn wsX6_kindsThatGoSo (wsV RX6 127 RX5 yX5_become wsX5_become) := goodIn_app (goodIn_of _ (by decide +kernel)) ggX6_kindsThatGoSo_X5_become
set_option maxRecDepth 20000 in
theorem ggX6_kindsThatGoSo_X6_goesSo : GoodIn wsX6_kindsThatGoSo wsX6_goesSo := goodIn_r _ [30, 1, 31, 32, 33, 34, 8, 35, 13, 20, 15, 12, 36, 37, 38, 39, 40, 41, 42, 43, 44, 45, 46, 47, 21, 48, 49, 50, 51, 52, 53, 54, 55, 14, 22, 25, 56, 57, 58, 59, 60, 61, 62, 63, 64, 65, 78, 79, 80, 81, 66, 67, 68, 69, 70, 71, 72, 73, 74, 75, 76, 77] (by decide +kernel) (by decide +kernel)
set_option maxRecDepth 20000 in
theorem gX6_kindsThatGoSo_X6_goesSo : GoodIn wsX6_kindsThatGoSo (wsV RX6 265 RX6 yX6_goesSo wsX6_goesSo) := goodIn_app (goodIn_of _ (by decide +kernel)) ggX6_kindsThatGoSo_X6_goesSo
set_option maxRecDepth 20000 in
theorem ggX6_sunsThatGoSo_X5_become : GoodIn wsX6_sunsThatGoSo wsX5_become := goodIn_r _ [9, 10, 11, 12, 13, 14, 15, 16, 17, 18, 19, 20, 21, 22, 23, 24, 25, 66, 67, 68, 69, 70, 71, 72, 73, 74, 75, 76, 77] (by decide +kernel) (by decide +kernel)
set_option maxRecDepth 20000 in
theorem gX6_sunsThatGoSo_X5_become : GoodIn wsX6_sunsThatGoSo (wsV RX6 127 RX5 yX5_become wsX5_become) := goodIn_app (goodIn_of _ (by decide +kernel)) ggX6_sunsThatGoSo_X5_become
set_option maxRecDepth 20000 in
theorem ggX6_sunsThatGoSo_X6_goesSo : GoodIn wsX6_sunsThatGoSo wsX6_goesSo := goodIn_r _ [30, 1, 31, 32, 33, 34, 8, 35, 13, 20, 15, 12, 36, 37, 38, 39, 40, 41, 42, 43, 44, 45, 46, 47, 21, 48, 49, 50, 51, 52, 53, 54, 55, 14, 22, 25, 56, 57, 58, 59, 60, 61, 62, 63, 64, 65, 78, 79, 80, 81, 66, 67, 68, 69, 70, 71, 72, 73, 74, 75, 76, 77] (by decide +kernel) (by decide +kernel)
set_option maxRecDepth 20000 in
theorem gX6_sunsThatGoSo_X6_goesSo : GoodIn wsX6_sunsThatGoSo (wsV RX6 265 RX6 yX6_goesSo wsX6_goesSo) := goodIn_app (goodIn_of _ (by decide +kernel)) ggX6_sunsThatGoSo_X6_goesSo
set_option maxRecDepth 20000 in
theorem ggX6_stormWays_X2_lookAt : GoodIn wsX6_stormWays wsX2_lookAt := goodIn_r _ [8, 9, 10, 11, 12, 13, 14, 15, 16, 17, 18, 19, 20, 21, 22, 23, 24, 25, 26, 27, 28, 29, 30, 31, 32, 33, 34, 35, 36, 37, 38, 39, 40, 41, 42, 43, 97, 85, 86, 87, 88, 89, 90, 91, 92, 93, 94, 95, 96] (by decide +kernel) (by decide +kernel)
set_option maxRecDepth 20000 in
theorem gX6_stormWays_X2_lookAt : GoodIn wsX6_stormWays (wsV RX6 248 RX2 yX2_lookAt wsX2_lookAt) := goodIn_app (goodIn_of _ (by decide +kernel)) ggX6_stormWays_X2_lookAt
set_option maxRecDepth 20000 in
theorem ggX6_stormWays_X5_readableOn : GoodIn wsX6_stormWays wsX5_readableOn := goodIn_r _ [47, 48, 25, 49, 50, 51, 18, 52, 26, 85, 86, 87, 88, 89, 90, 91, 92, 93, 94, 95, 96] (by decide +kernel) (by decide +kernel)
set_option maxRecDepth 20000 in
theorem gX6_stormWays_X5_readableOn : GoodIn wsX6_stormWays (wsV RX6 197 RX5 yX5_readableOn wsX5_readableOn) := goodIn_app (goodIn_of _ (by decide +kernel)) ggX6_stormWays_X5_readableOn
set_option maxRecDepth 20000 in
theorem ggX6_stormWays_X6_isIn : GoodIn wsX6_stormWays wsX6_isIn := goodIn_r _ [56] (by decide +kernel) (by decide +kernel)
set_option maxRecDepth 20000 in
theorem gX6_stormWays_X6_isIn : GoodIn wsX6_stormWays (va_wsS RX6 251 yX6_isIn wsX6_isIn) := goodIn_app (goodIn_of _ (by decide +kernel)) ggX6_stormWays_X6_isIn
set_option maxRecDepth 20000 in
theorem ggX6_stormWays_X2_reached : GoodIn wsX6_stormWays wsX2_reached := goodIn_r _ [60, 61, 62, 63, 7, 64, 9, 54, 55, 56, 97] (by decide +kernel) (by decide +kernel)
set_option maxRecDepth 20000 in
theorem gX6_stormWays_X2_reached : GoodIn wsX6_stormWays (wsV RX6 254 RX2 yX2_reached wsX2_reached) := goodIn_app (goodIn_of _ (by decide +kernel)) ggX6_stormWays_X2_reached
set_option maxRecDepth 20000 in
theorem ggX6_stormWays_J6_bitCount_0f7a4 : GoodIn wsX6_stormWays wsJ6_bitCount_0f7a4 := goodIn_r _ [68, 69, 70, 71] (by decide +kernel) (by decide +kernel)
set_option maxRecDepth 20000 in
theorem gX6_stormWays_J6_bitCount_0f7a4 : GoodIn wsX6_stormWays (va_wsS RX6 154 yJ6_bitCount_0f7a4 wsJ6_bitCount_0f7a4) := goodIn_app (goodIn_of _ (by decide +kernel)) ggX6_stormWays_J6_bitCount_0f7a4
set_option maxRecDepth 20000 in
theorem ggX6_stormWays_X6_power : GoodIn wsX6_stormWays wsX6_power := goodIn_r _ [74] (by decide +kernel) (by decide +kernel)
set_option maxRecDepth 20000 in
theorem gX6_stormWays_X6_power : GoodIn wsX6_stormWays (va_wsS RX6 280 yX6_power wsX6_power) := goodIn_app (goodIn_of _ (by decide +kernel)) ggX6_stormWays_X6_power
set_option maxRecDepth 20000 in
theorem ggX7_isRow_X7_in : GoodIn wsX7_isRow wsX7_in := goodIn_r _ [4] (by decide +kernel) (by decide +kernel)
set_option maxRecDepth 20000 in
theorem gX7_isRow_X7_in : GoodIn wsX7_isRow (va_wsS RX7 53 yX7_in wsX7_in) := goodIn_app (goodIn_of _ (by decide +kernel)) ggX7_isRow_X7_in
set_option maxRecDepth 20000 in
theorem ggX7_row_X7_isRow : GoodIn wsX7_row wsX7_isRow := goodIn_r _ [8, 9, 10, 7, 11] (by decide +kernel) (by decide +kernel)
set_option maxRecDepth 20000 in
theorem gX7_row_X7_isRow : GoodIn wsX7_row (va_wsS RX7 57 yX7_isRow wsX7_isRow) := goodIn_app (goodIn_of _ (by decide +kernel)) ggX7_row_X7_isRow
set_option maxRecDepth 20000 in
theorem ggX7_row_X7_in : GoodIn wsX7_row wsX7_in := goodIn_r _ [11] (by decide +kernel) (by decide +kernel)
set_option maxRecDepth 20000 in
theorem gX7_row_X7_in : GoodIn wsX7_row (va_wsS RX7 53 yX7_in wsX7_in) := goodIn_app (goodIn_of _ (by decide +kernel)) ggX7_row_X7_in
set_option maxRecDepth 20000 in
theorem ggX7_row_X7_found : GoodIn wsX7_row wsX7_found := goodIn_r _ [15, 16, 17, 22, 23, 24, 25, 26, 27, 28, 29, 30, 31, 32, 33, 34, 35, 36, 37, 38, 39, 40, 41, 42, 43] (by decide +kernel) (by decide +kernel)
set_option maxRecDepth 20000 in
theorem gX7_row_X7_found : GoodIn wsX7_row (wsV RX7 62 RX7 yX7_found wsX7_found) := goodIn_app (goodIn_of _ (by decide +kernel)) ggX7_row_X7_found
set_option maxRecDepth 20000 in
theorem ggX7_row_X7_well : GoodIn wsX7_row wsX7_well := goodIn_r _ [21, 16, 22, 23, 24, 25, 26, 27, 28, 29, 30, 31, 32, 33, 34, 35, 36, 37, 38, 39, 40, 41, 42, 43] (by decide +kernel) (by decide +kernel)
set_option maxRecDepth 20000 in
theorem gX7_row_X7_well : GoodIn wsX7_row (wsV RX7 66 RX7 yX7_well wsX7_well) := goodIn_app (goodIn_of _ (by decide +kernel)) ggX7_row_X7_well
set_option maxRecDepth 20000 in
theorem ggX7_set_X7_isRow : GoodIn wsX7_set wsX7_isRow := goodIn_r _ [8, 9, 10, 7, 11] (by decide +kernel) (by decide +kernel)
set_option maxRecDepth 20000 in
theorem gX7_set_X7_isRow : GoodIn wsX7_set (va_wsS RX7 57 yX7_isRow wsX7_isRow) := goodIn_app (goodIn_of _ (by decide +kernel)) ggX7_set_X7_isRow
set_option maxRecDepth 20000 in
theorem ggX7_set_X7_isMissing : GoodIn wsX7_set wsX7_isMissing := goodIn_r _ [15, 4, 16, 30, 31, 32, 33, 34, 35, 36, 37, 38, 39, 40, 41, 42, 43, 44, 45, 46, 47, 48, 49, 50, 51] (by decide +kernel) (by decide +kernel)
set_option maxRecDepth 20000 in
theorem gX7_set_X7_isMissing : GoodIn wsX7_set (wsV RX7 69 RX7 yX7_isMissing wsX7_isMissing) := goodIn_app (goodIn_of _ (by decide +kernel)) ggX7_set_X7_isMissing
set_option maxRecDepth 20000 in
theorem ggX7_set_X7_found : GoodIn wsX7_set wsX7_found := goodIn_r _ [20, 21, 22, 30, 31, 32, 33, 34, 35, 36, 37, 38, 39, 40, 41, 42, 43, 44, 45, 46, 47, 48, 49, 50, 51] (by decide +kernel) (by decide +kernel)
set_option maxRecDepth 20000 in
theorem gX7_set_X7_found : GoodIn wsX7_set (wsV RX7 62 RX7 yX7_found wsX7_found) := goodIn_app (goodIn_of _ (by decide +kernel)) ggX7_set_X7_found
set_option maxRecDepth 20000 in
theorem ggX7_set_X7_in : GoodIn wsX7_set wsX7_in := goodIn_r _ [11] (by decide +kernel) (by decide +kernel)
set_option maxRecDepth 20000 in
theorem gX7_set_X7_in : GoodIn wsX7_set (va_wsS RX7 53 yX7_in wsX7_in) := goodIn_app (goodIn_of _ (by decide +kernel)) ggX7_set_X7_in
set_option maxRecDepth 20000 in
theorem ggX7_set_X7_cut : GoodIn wsX7_set wsX7_cut := goodIn_r _ [25] (by decide +kernel) (by decide +kernel)
set_option maxRecDepth 20000 in
theorem gX7_set_X7_cut : GoodIn wsX7_set (va_wsS RX7 72 yX7_cut wsX7_cut) := goodIn_app (goodIn_of _ (by decide +kernel)) ggX7_set_X7_cut
set_option maxRecDepth 20000 in
theorem ggX7_set_X7_well : GoodIn wsX7_set wsX7_well := goodIn_r _ [29, 21, 30, 31, 32, 33, 34, 35, 36, 37, 38, 39, 40, 41, 42, 43, 44, 45, 46, 47, 48, 49, 50, 51] (by decide +kernel) (by decide +kernel)
set_option maxRecDepth 20000 in
theorem gX7_set_X7_well : GoodIn wsX7_set (wsV RX7 66 RX7 yX7_well wsX7_well) := goodIn_app (goodIn_of _ (by decide +kernel)) ggX7_set_X7_well
set_option maxRecDepth 20000 in
theorem ggX7_copy_X7_isRow : GoodIn wsX7_copy wsX7_isRow := goodIn_r _ [8, 9, 10, 7, 11] (by decide +kernel) (by decide +kernel)
set_option maxRecDepth 20000 in
theorem gX7_copy_X7_isRow : GoodIn wsX7_copy (va_wsS RX7 57 yX7_isRow wsX7_isRow) := goodIn_app (goodIn_of _ (by decide +kernel)) ggX7_copy_X7_isRow
set_option maxRecDepth 20000 in
theorem ggX7_copy_X7_isMissing : GoodIn wsX7_copy wsX7_isMissing := goodIn_r _ [15, 2, 16, 32, 33, 34, 35, 36, 37, 38, 39, 40, 41, 42, 43, 44, 45, 46, 47, 48, 49, 50, 51, 52, 53] (by decide +kernel) (by decide +kernel)
set_option maxRecDepth 20000 in
theorem gX7_copy_X7_isMissing : GoodIn wsX7_copy (wsV RX7 69 RX7 yX7_isMissing wsX7_isMissing) := goodIn_app (goodIn_of _ (by decide +kernel)) ggX7_copy_X7_isMissing
set_option maxRecDepth 20000 in
theorem ggX7_copy_X7_found : GoodIn wsX7_copy wsX7_found := goodIn_r _ [20, 21, 22, 32, 33, 34, 35, 36, 37, 38, 39, 40, 41, 42, 43, 44, 45, 46, 47, 48, 49, 50, 51, 52, 53] (by decide +kernel) (by decide +kernel)
set_option maxRecDepth 20000 in
theorem gX7_copy_X7_found : GoodIn wsX7_copy (wsV RX7 62 RX7 yX7_found wsX7_found) := goodIn_app (goodIn_of _ (by decide +kernel)) ggX7_copy_X7_found
set_option maxRecDepth 20000 in
theorem ggX7_copy_X7_isPart : GoodIn wsX7_copy wsX7_isPart := goodIn_r _ [26, 27, 32, 33, 34, 35, 36, 37, 38, 39, 40, 41, 42, 43, 44, 45, 46, 47, 48, 49, 50, 51, 52, 53] (by decide +kernel) (by decide +kernel)
set_option maxRecDepth 20000 in
theorem gX7_copy_X7_isPart : GoodIn wsX7_copy (wsV RX7 76 RX7 yX7_isPart wsX7_isPart) := goodIn_app (goodIn_of _ (by decide +kernel)) ggX7_copy_X7_isPart
set_option maxRecDepth 20000 in
theorem ggX7_copy_X7_well : GoodIn wsX7_copy wsX7_well := goodIn_r _ [31, 21, 32, 33, 34, 35, 36, 37, 38, 39, 40, 41, 42, 43, 44, 45, 46, 47, 48, 49, 50, 51, 52, 53] (by decide +kernel) (by decide +kernel)
set_option maxRecDepth 20000 in
theorem gX7_copy_X7_well : GoodIn wsX7_copy (wsV RX7 66 RX7 yX7_well wsX7_well) := goodIn_app (goodIn_of _ (by decide +kernel)) ggX7_copy_X7_well
set_option maxRecDepth 20000 in
theorem ggX7_drop_X7_isRow : GoodIn wsX7_drop wsX7_isRow := goodIn_r _ [8, 9, 10, 7, 11] (by decide +kernel) (by decide +kernel)
set_option maxRecDepth 20000 in
theorem gX7_drop_X7_isRow : GoodIn wsX7_drop (va_wsS RX7 57 yX7_isRow wsX7_isRow) := goodIn_app (goodIn_of _ (by decide +kernel)) ggX7_drop_X7_isRow
set_option maxRecDepth 20000 in
theorem ggX7_drop_X7_isMissing : GoodIn wsX7_drop wsX7_isMissing := goodIn_r _ [15, 2, 3, 26, 27, 28, 29, 30, 31, 32, 33, 34, 35, 36, 37, 38, 39, 40, 41, 42, 43, 44, 45, 46, 47] (by decide +kernel) (by decide +kernel)
set_option maxRecDepth 20000 in
theorem gX7_drop_X7_isMissing : GoodIn wsX7_drop (wsV RX7 69 RX7 yX7_isMissing wsX7_isMissing) := goodIn_app (goodIn_of _ (by decide +kernel)) ggX7_drop_X7_isMissing
set_option maxRecDepth 20000 in
theorem ggX7_drop_X7_found : GoodIn wsX7_drop wsX7_found := goodIn_r _ [19, 20, 21, 26, 27, 28, 29, 30, 31, 32, 33, 34, 35, 36, 37, 38, 39, 40, 41, 42, 43, 44, 45, 46, 47] (by decide +kernel) (by decide +kernel)
set_option maxRecDepth 20000 in
theorem gX7_drop_X7_found : GoodIn wsX7_drop (wsV RX7 62 RX7 yX7_found wsX7_found) := goodIn_app (goodIn_of _ (by decide +kernel)) ggX7_drop_X7_found
set_option maxRecDepth 20000 in
theorem ggX7_drop_X7_well : GoodIn wsX7_drop wsX7_well := goodIn_r _ [25, 20, 26, 27, 28, 29, 30, 31, 32, 33, 34, 35, 36, 37, 38, 39, 40, 41, 42, 43, 44, 45, 46, 47] (by decide +kernel) (by decide +kernel)
set_option maxRecDepth 20000 in
theorem gX7_drop_X7_well : GoodIn wsX7_drop (wsV RX7 66 RX7 yX7_well wsX7_well) := goodIn_app (goodIn_of _ (by decide +kernel)) ggX7_drop_X7_well
set_option maxRecDepth 20000 in
theorem ggX7_feed_X7_in : GoodIn wsX7_feed wsX7_in := goodIn_r _ [8] (by decide +kernel) (by decide +kernel)
set_option maxRecDepth 20000 in
theorem gX7_feed_X7_in : GoodIn wsX7_feed (va_wsS RX7 53 yX7_in wsX7_in) := goodIn_app (goodIn_of _ (by decide +kernel)) ggX7_feed_X7_in
set_option maxRecDepth 20000 in
theorem ggX7_advances_X7_byteAt : GoodIn wsX7_advances wsX7_byteAt := goodIn_r _ [9, 10, 11, 15, 16, 17, 18, 19, 20, 21, 22, 23, 24, 25, 26, 27, 28, 29, 30, 31, 32, 33, 34, 35, 36] (by decide +kernel) (by decide +kernel)
set_option maxRecDepth 20000 in
theorem gX7_advances_X7_byteAt : GoodIn wsX7_advances (wsV RX7 89 RX7 yX7_byteAt wsX7_byteAt) := goodIn_app (goodIn_of _ (by decide +kernel)) ggX7_advances_X7_byteAt
set_option maxRecDepth 20000 in
theorem ggX7_advances_X7_in : GoodIn wsX7_advances wsX7_in := goodIn_r _ [14] (by decide +kernel) (by decide +kernel)
set_option maxRecDepth 20000 in
theorem gX7_advances_X7_in : GoodIn wsX7_advances (va_wsS RX7 53 yX7_in wsX7_in) := goodIn_app (goodIn_of _ (by decide +kernel)) ggX7_advances_X7_in
set_option maxRecDepth 20000 in
theorem ggX7_takes_X7_isWell : GoodIn wsX7_takes wsX7_isWell := goodIn_r _ [9, 2, 25, 26, 27, 28, 29, 30, 31, 32, 33, 34, 35, 36, 37, 38, 39, 40, 41, 42, 43, 44, 45, 46] (by decide +kernel) (by decide +kernel)
set_option maxRecDepth 20000 in
theorem gX7_takes_X7_isWell : GoodIn wsX7_takes (wsV RX7 101 RX7 yX7_isWell wsX7_isWell) := goodIn_app (goodIn_of _ (by decide +kernel)) ggX7_takes_X7_isWell
set_option maxRecDepth 20000 in
theorem ggX7_takes_X7_advances : GoodIn wsX7_takes wsX7_advances := goodIn_r _ [13, 14, 1, 4, 15, 16, 17, 18, 8, 19, 20, 21, 22, 23, 24, 25, 26, 27, 28, 29, 30, 31, 32, 33, 34, 35, 36, 37, 38, 39, 40, 41, 42, 43, 44, 45, 46] (by decide +kernel) (by decide +kernel)
set_option maxRecDepth 20000 in
theorem gX7_takes_X7_advances : GoodIn wsX7_takes (wsV RX7 108 RX7 yX7_advances wsX7_advances) := goodIn_app (goodIn_of _ (by decide +kernel)) ggX7_takes_X7_advances
set_option maxRecDepth 20000 in
theorem ggX7_figure_X7_isWell : GoodIn wsX7_figure wsX7_isWell := goodIn_r _ [7, 8, 29, 30, 31, 32, 33, 34, 35, 36, 37, 38, 39, 40, 41, 42, 43, 44, 45, 46, 47, 48, 49, 50] (by decide +kernel) (by decide +kernel)
set_option maxRecDepth 20000 in
theorem gX7_figure_X7_isWell : GoodIn wsX7_figure (wsV RX7 101 RX7 yX7_isWell wsX7_isWell) := goodIn_app (goodIn_of _ (by decide +kernel)) ggX7_figure_X7_isWell
set_option maxRecDepth 20000 in
theorem ggX7_figure_X7_takes : GoodIn wsX7_figure wsX7_takes := goodIn_r _ [12, 13, 8, 14, 2, 3, 4, 5, 6, 7, 15, 16, 17, 18, 19, 1, 20, 21, 22, 23, 24, 25, 26, 27, 28, 29, 30, 31, 32, 33, 34, 35, 36, 37, 38, 39, 40, 41, 42, 43, 44, 45, 46, 47, 48, 49, 50] (by decide +kernel) (by decide +kernel)
set_option maxRecDepth 20000 in
theorem gX7_figure_X7_takes : GoodIn wsX7_figure (wsV RX7 111 RX7 yX7_takes wsX7_takes) := goodIn_app (goodIn_of _ (by decide +kernel)) ggX7_figure_X7_takes
set_option maxRecDepth 20000 in
theorem ggX7_figure_X7_in : GoodIn wsX7_figure wsX7_in := goodIn_r _ [28] (by decide +kernel) (by decide +kernel)
set_option maxRecDepth 20000 in
theorem gX7_figure_X7_in : GoodIn wsX7_figure (va_wsS RX7 53 yX7_in wsX7_in) := goodIn_app (goodIn_of _ (by decide +kernel)) ggX7_figure_X7_in
set_option maxRecDepth 20000 in
theorem ggX7_next_X7_takes : GoodIn wsX7_next wsX7_takes := goodIn_r _ [6, 7, 8, 9, 10, 11, 12, 13, 5, 14, 15, 16, 17, 18, 19, 1, 20, 21, 22, 23, 24, 25, 26, 27, 28, 33, 34, 35, 36, 37, 38, 39, 40, 41, 42, 43, 44, 45, 46, 47, 48, 49, 50, 51, 52, 53, 54] (by decide +kernel) (by decide +kernel)
set_option maxRecDepth 20000 in
theorem gX7_next_X7_takes : GoodIn wsX7_next (wsV RX7 111 RX7 yX7_takes wsX7_takes) := goodIn_app (goodIn_of _ (by decide +kernel)) ggX7_next_X7_takes
set_option maxRecDepth 20000 in
theorem ggX7_next_X7_figure : GoodIn wsX7_next wsX7_figure := goodIn_r _ [32, 1, 10, 11, 12, 13, 5, 14, 8, 2, 3, 4, 6, 7, 9, 15, 16, 17, 18, 19, 20, 21, 22, 23, 24, 25, 26, 27, 28, 33, 34, 35, 36, 37, 38, 39, 40, 41, 42, 43, 44, 45, 46, 47, 48, 49, 50, 51, 52, 53, 54] (by decide +kernel) (by decide +kernel)
set_option maxRecDepth 20000 in
theorem gX7_next_X7_figure : GoodIn wsX7_next (wsV RX7 115 RX7 yX7_figure wsX7_figure) := goodIn_app (goodIn_of _ (by decide +kernel)) ggX7_next_X7_figure
set_option maxRecDepth 20000 in
theorem ggX7_readsTree_X7_kindOf : GoodIn wsX7_readsTree wsX7_kindOf := goodIn_r _ [7] (by decide +kernel) (by decide +kernel)
set_option maxRecDepth 20000 in
theorem gX7_readsTree_X7_kindOf : GoodIn wsX7_readsTree (va_wsS RX7 118 yX7_kindOf wsX7_kindOf) := goodIn_app (goodIn_of _ (by decide +kernel)) ggX7_readsTree_X7_kindOf
set_option maxRecDepth 20000 in
theorem ggX7_readsTree_X7_takes : GoodIn wsX7_readsTree wsX7_takes := goodIn_r _ [11, 12, 13, 14, 1, 15, 16, 17, 6, 18, 19, 20, 21, 22, 23, 3, 24, 25, 26, 27, 28, 29, 30, 31, 32, 41, 42, 43, 44, 45, 46, 47, 48, 49, 50, 51, 52, 53, 54, 55, 56, 57, 58, 59, 60, 61, 62] (by decide +kernel) (by decide +kernel)
set_option maxRecDepth 20000 in
theorem gX7_readsTree_X7_takes : GoodIn wsX7_readsTree (wsV RX7 111 RX7 yX7_takes wsX7_takes) := goodIn_app (goodIn_of _ (by decide +kernel)) ggX7_readsTree_X7_takes
set_option maxRecDepth 20000 in
theorem ggX7_readsTree_X7_figure : GoodIn wsX7_readsTree wsX7_figure := goodIn_r _ [36, 3, 1, 15, 16, 17, 6, 18, 13, 8, 9, 10, 11, 12, 14, 19, 20, 21, 22, 23, 24, 25, 26, 27, 28, 29, 30, 31, 32, 41, 42, 43, 44, 45, 46, 47, 48, 49, 50, 51, 52, 53, 54, 55, 56, 57, 58, 59, 60, 61, 62] (by decide +kernel) (by decide +kernel)
set_option maxRecDepth 20000 in
theorem gX7_readsTree_X7_figure : GoodIn wsX7_readsTree (wsV RX7 115 RX7 yX7_figure wsX7_figure) := goodIn_app (goodIn_of _ (by decide +kernel)) ggX7_readsTree_X7_figure
set_option maxRecDepth 20000 in
theorem ggX7_readsTree_X7_next : GoodIn wsX7_readsTree wsX7_next := goodIn_r _ [40, 3, 8, 9, 10, 6, 11, 12, 13, 14, 1, 15, 16, 17, 18, 19, 20, 21, 22, 23, 24, 25, 26, 27, 28, 29, 30, 31, 32, 33, 34, 35, 36, 41, 42, 43, 44, 45, 46, 47, 48, 49, 50, 51, 52, 53, 54, 55, 56, 57, 58, 59, 60, 61, 62] (by decide +kernel) (by decide +kernel)
set_option maxRecDepth 20000 in
theorem gX7_readsTree_X7_next : GoodIn wsX7_readsTree (wsV RX7 121 RX7 yX7_next wsX7_next) := goodIn_app (goodIn_of _ (by decide +kernel)) ggX7_readsTree_X7_next
set_option maxRecDepth 20000 in
theorem ggX7_readsTree_X7_isWell : GoodIn wsX7_readsTree wsX7_isWell := goodIn_r _ [18, 13, 41, 42, 43, 44, 45, 46, 47, 48, 49, 50, 51, 52, 53, 54, 55, 56, 57, 58, 59, 60, 61, 62] (by decide +kernel) (by decide +kernel)
set_option maxRecDepth 20000 in
theorem gX7_readsTree_X7_isWell : GoodIn wsX7_readsTree (wsV RX7 101 RX7 yX7_isWell wsX7_isWell) := goodIn_app (goodIn_of _ (by decide +kernel)) ggX7_readsTree_X7_isWell
set_option maxRecDepth 20000 in
theorem ggX7_readsCut_X7_takes : GoodIn wsX7_readsCut wsX7_takes := goodIn_r _ [8, 9, 10, 11, 3, 12, 13, 14, 7, 15, 16, 17, 18, 19, 20, 2, 21, 22, 23, 24, 25, 26, 27, 28, 29, 41, 42, 43, 44, 45, 46, 47, 48, 49, 50, 51, 52, 53, 54, 55, 56, 57, 58, 59, 60, 61, 62] (by decide +kernel) (by decide +kernel)
set_option maxRecDepth 20000 in
theorem gX7_readsCut_X7_takes : GoodIn wsX7_readsCut (wsV RX7 111 RX7 yX7_takes wsX7_takes) := goodIn_app (goodIn_of _ (by decide +kernel)) ggX7_readsCut_X7_takes
set_option maxRecDepth 20000 in
theorem ggX7_readsCut_X7_figure : GoodIn wsX7_readsCut wsX7_figure := goodIn_r _ [33, 2, 3, 12, 13, 14, 7, 15, 10, 4, 5, 6, 8, 9, 11, 16, 17, 18, 19, 20, 21, 22, 23, 24, 25, 26, 27, 28, 29, 41, 42, 43, 44, 45, 46, 47, 48, 49, 50, 51, 52, 53, 54, 55, 56, 57, 58, 59, 60, 61, 62] (by decide +kernel) (by decide +kernel)
set_option maxRecDepth 20000 in
theorem gX7_readsCut_X7_figure : GoodIn wsX7_readsCut (wsV RX7 115 RX7 yX7_figure wsX7_figure) := goodIn_app (goodIn_of _ (by decide +kernel)) ggX7_readsCut_X7_figure
set_option maxRecDepth 20000 in
theorem ggX7_readsCut_X7_next : GoodIn wsX7_readsCut wsX7_next := goodIn_r _ [37, 2, 4, 5, 6, 7, 8, 9, 10, 11, 3, 12, 13, 14, 15, 16, 17, 18, 19, 20, 21, 22, 23, 24, 25, 26, 27, 28, 29, 30, 31, 32, 33, 41, 42, 43, 44, 45, 46, 47, 48, 49, 50, 51, 52, 53, 54, 55, 56, 57, 58, 59, 60, 61, 62] (by decide +kernel) (by decide +kernel)
set_option maxRecDepth 20000 in
theorem gX7_readsCut_X7_next : GoodIn wsX7_readsCut (wsV RX7 121 RX7 yX7_next wsX7_next) := goodIn_app (goodIn_of _ (by decide +kernel)) ggX7_readsCut_X7_next
set_option maxRecDepth 20000 in
theorem ggX7_readsCut_X7_isWell : GoodIn wsX7_readsCut wsX7_isWell := goodIn_r _ [15, 10, 41, 42, 43, 44, 45, 46, 47, 48, 49, 50, 51, 52, 53, 54, 55, 56, 57, 58, 59, 60, 61, 62] (by decide +kernel) (by decide +kernel)
set_option maxRecDepth 20000 in
theorem gX7_readsCut_X7_isWell : GoodIn wsX7_readsCut (wsV RX7 101 RX7 yX7_isWell wsX7_isWell) := goodIn_app (goodIn_of _ (by decide +kernel)) ggX7_readsCut_X7_isWell
set_option maxRecDepth 20000 in
theorem ggX7_readsCut_X7_in : GoodIn wsX7_readsCut wsX7_in := goodIn_r _ [29] (by decide +kernel) (by decide +kernel)
set_option maxRecDepth 20000 in
theorem gX7_readsCut_X7_in : GoodIn wsX7_readsCut (va_wsS RX7 53 yX7_in wsX7_in) := goodIn_app (goodIn_of _ (by decide +kernel)) ggX7_readsCut_X7_in
set_option maxRecDepth 20000 in
theorem ggX7_readsCut_X7_isCutAt : GoodIn wsX7_readsCut wsX7_isCutAt := goodIn_r _ [40] (by decide +kernel) (by decide +kernel)
set_option maxRecDepth 20000 in
theorem gX7_readsCut_X7_isCutAt : GoodIn wsX7_readsCut (va_wsS RX7 124 yX7_isCutAt wsX7_isCutAt) := goodIn_app (goodIn_of _ (by decide +kernel)) ggX7_readsCut_X7_isCutAt
set_option maxRecDepth 20000 in
theorem ggX7_wood_X7_advances : GoodIn wsX7_wood wsX7_advances := goodIn_r _ [14, 2, 15, 5, 4, 16, 17, 18, 13, 19, 6, 20, 21, 22, 23, 58, 59, 60, 61, 62, 63, 64, 65, 66, 67, 68, 69, 70, 71, 72, 73, 74, 75, 76, 77, 78, 79] (by decide +kernel) (by decide +kernel)
set_option maxRecDepth 20000 in
theorem gX7_wood_X7_advances : GoodIn wsX7_wood (wsV RX7 108 RX7 yX7_advances wsX7_advances) := goodIn_app (goodIn_of _ (by decide +kernel)) ggX7_wood_X7_advances
set_option maxRecDepth 20000 in
theorem ggX7_wood_X7_takes : GoodIn wsX7_wood wsX7_takes := goodIn_r _ [27, 15, 3, 28, 5, 29, 30, 31, 13, 32, 10, 11, 12, 14, 2, 4, 16, 17, 18, 19, 6, 20, 21, 22, 23, 58, 59, 60, 61, 62, 63, 64, 65, 66, 67, 68, 69, 70, 71, 72, 73, 74, 75, 76, 77, 78, 79] (by decide +kernel) (by decide +kernel)
set_option maxRecDepth 20000 in
theorem gX7_wood_X7_takes : GoodIn wsX7_wood (wsV RX7 111 RX7 yX7_takes wsX7_takes) := goodIn_app (goodIn_of _ (by decide +kernel)) ggX7_wood_X7_takes
set_option maxRecDepth 20000 in
theorem ggX7_wood_X7_figure : GoodIn wsX7_wood wsX7_figure := goodIn_r _ [36, 4, 5, 29, 30, 31, 13, 32, 3, 24, 25, 26, 27, 15, 28, 10, 11, 12, 14, 2, 16, 17, 18, 19, 6, 20, 21, 22, 23, 58, 59, 60, 61, 62, 63, 64, 65, 66, 67, 68, 69, 70, 71, 72, 73, 74, 75, 76, 77, 78, 79] (by decide +kernel) (by decide +kernel)
set_option maxRecDepth 20000 in
theorem gX7_wood_X7_figure : GoodIn wsX7_wood (wsV RX7 115 RX7 yX7_figure wsX7_figure) := goodIn_app (goodIn_of _ (by decide +kernel)) ggX7_wood_X7_figure
set_option maxRecDepth 20000 in
theorem ggX7_wood_X7_isWell : GoodIn wsX7_wood wsX7_isWell := goodIn_r _ [32, 3, 58, 59, 60, 61, 62, 63, 64, 65, 66, 67, 68, 69, 70, 71, 72, 73, 74, 75, 76, 77, 78, 79] (by decide +kernel) (by decide +kernel)
set_option maxRecDepth 20000 in
theorem gX7_wood_X7_isWell : GoodIn wsX7_wood (wsV RX7 101 RX7 yX7_isWell wsX7_isWell) := goodIn_app (goodIn_of _ (by decide +kernel)) ggX7_wood_X7_isWell
set_option maxRecDepth 20000 in
theorem ggX7_wood_X7_kindOf : GoodIn wsX7_wood wsX7_kindOf := goodIn_r _ [39] (by decide +kernel) (by decide +kernel)
set_option maxRecDepth 20000 in
theorem gX7_wood_X7_kindOf : GoodIn wsX7_wood (va_wsS RX7 118 yX7_kindOf wsX7_kindOf) := goodIn_app (goodIn_of _ (by decide +kernel)) ggX7_wood_X7_kindOf
set_option maxRecDepth 20000 in
theorem ggX7_wood_X7_readsTree : GoodIn wsX7_wood wsX7_readsTree := goodIn_r _ [43, 5, 1, 4, 37, 38, 13, 39, 24, 25, 26, 27, 15, 3, 28, 29, 30, 31, 32, 10, 11, 12, 14, 2, 16, 17, 18, 19, 6, 20, 21, 22, 23, 33, 34, 35, 36, 44, 45, 46, 47, 58, 59, 60, 61, 62, 63, 64, 65, 66, 67, 68, 69, 70, 71, 72, 73, 74, 75, 76, 77, 78, 79] (by decide +kernel) (by decide +kernel)
set_option maxRecDepth 20000 in
theorem gX7_wood_X7_readsTree : GoodIn wsX7_wood (wsV RX7 128 RX7 yX7_readsTree wsX7_readsTree) := goodIn_app (goodIn_of _ (by decide +kernel)) ggX7_wood_X7_readsTree
set_option maxRecDepth 20000 in
theorem ggX7_wood_X7_readsCut : GoodIn wsX7_wood wsX7_readsCut := goodIn_r _ [51, 1, 4, 5, 24, 25, 26, 13, 27, 15, 3, 28, 29, 30, 31, 32, 10, 11, 12, 14, 2, 16, 17, 18, 19, 6, 20, 21, 22, 23, 33, 34, 35, 36, 44, 45, 46, 47, 52, 53, 54, 58, 59, 60, 61, 62, 63, 64, 65, 66, 67, 68, 69, 70, 71, 72, 73, 74, 75, 76, 77, 78, 79] (by decide +kernel) (by decide +kernel)
set_option maxRecDepth 20000 in
theorem gX7_wood_X7_readsCut : GoodIn wsX7_wood (wsV RX7 131 RX7 yX7_readsCut wsX7_readsCut) := goodIn_app (goodIn_of _ (by decide +kernel)) ggX7_wood_X7_readsCut
set_option maxRecDepth 20000 in
theorem ggX7_wood_X7_copies : GoodIn wsX7_wood wsX7_copies := goodIn_r _ [57] (by decide +kernel) (by decide +kernel)
set_option maxRecDepth 20000 in
theorem gX7_wood_X7_copies : GoodIn wsX7_wood (va_wsS RX7 135 yX7_copies wsX7_copies) := goodIn_app (goodIn_of _ (by decide +kernel)) ggX7_wood_X7_copies
set_option maxRecDepth 20000 in
theorem ggX7_isTree_X7_in : GoodIn wsX7_isTree wsX7_in := goodIn_r _ [5] (by decide +kernel) (by decide +kernel)
set_option maxRecDepth 20000 in
theorem gX7_isTree_X7_in : GoodIn wsX7_isTree (va_wsS RX7 53 yX7_in wsX7_in) := goodIn_app (goodIn_of _ (by decide +kernel)) ggX7_isTree_X7_in
set_option maxRecDepth 20000 in
theorem ggX7_isCut_X7_in : GoodIn wsX7_isCut wsX7_in := goodIn_r _ [5] (by decide +kernel) (by decide +kernel)
set_option maxRecDepth 20000 in
theorem gX7_isCut_X7_in : GoodIn wsX7_isCut (va_wsS RX7 53 yX7_in wsX7_in) := goodIn_app (goodIn_of _ (by decide +kernel)) ggX7_isCut_X7_in
set_option maxRecDepth 20000 in
theorem ggX7_isFar_X7_in : GoodIn wsX7_isFar wsX7_in := goodIn_r _ [4] (by decide +kernel) (by decide +kernel)
set_option maxRecDepth 20000 in
theorem gX7_isFar_X7_in : GoodIn wsX7_isFar (va_wsS RX7 53 yX7_in wsX7_in) := goodIn_app (goodIn_of _ (by decide +kernel)) ggX7_isFar_X7_in
set_option maxRecDepth 20000 in
theorem ggX7_growth_X7_ruled : GoodIn wsX7_growth wsX7_ruled := goodIn_r _ [4] (by decide +kernel) (by decide +kernel)
set_option maxRecDepth 20000 in
theorem gX7_growth_X7_ruled : GoodIn wsX7_growth (va_wsS RX7 142 yX7_ruled wsX7_ruled) := goodIn_app (goodIn_of _ (by decide +kernel)) ggX7_growth_X7_ruled
set_option maxRecDepth 20000 in
theorem ggX7_passes_X7_growth : GoodIn wsX7_passes wsX7_growth := goodIn_r _ [4, 5, 6, 3, 7] (by decide +kernel) (by decide +kernel)
set_option maxRecDepth 20000 in
theorem gX7_passes_X7_growth : GoodIn wsX7_passes (va_wsS RX7 146 yX7_growth wsX7_growth) := goodIn_app (goodIn_of _ (by decide +kernel)) ggX7_passes_X7_growth
set_option maxRecDepth 20000 in
theorem ggX7_passes_X7_heals : GoodIn wsX7_passes wsX7_heals := goodIn_r _ [10] (by decide +kernel) (by decide +kernel)
set_option maxRecDepth 20000 in
theorem gX7_passes_X7_heals : GoodIn wsX7_passes (va_wsS RX7 150 yX7_heals wsX7_heals) := goodIn_app (goodIn_of _ (by decide +kernel)) ggX7_passes_X7_heals
set_option maxRecDepth 20000 in
theorem ggX7_tries_X7_copies : GoodIn wsX7_tries wsX7_copies := goodIn_r _ [6] (by decide +kernel) (by decide +kernel)
set_option maxRecDepth 20000 in
theorem gX7_tries_X7_copies : GoodIn wsX7_tries (va_wsS RX7 135 yX7_copies wsX7_copies) := goodIn_app (goodIn_of _ (by decide +kernel)) ggX7_tries_X7_copies
set_option maxRecDepth 20000 in
theorem ggX7_tries_X7_passes : GoodIn wsX7_tries wsX7_passes := goodIn_r _ [9, 10, 11, 5, 12, 13, 14, 15, 16, 17, 18] (by decide +kernel) (by decide +kernel)
set_option maxRecDepth 20000 in
theorem gX7_tries_X7_passes : GoodIn wsX7_tries (va_wsS RX7 153 yX7_passes wsX7_passes) := goodIn_app (goodIn_of _ (by decide +kernel)) ggX7_tries_X7_passes
set_option maxRecDepth 20000 in
theorem ggX7_apartIn_X7_between : GoodIn wsX7_apartIn wsX7_between := goodIn_r _ [4] (by decide +kernel) (by decide +kernel)
set_option maxRecDepth 20000 in
theorem gX7_apartIn_X7_between : GoodIn wsX7_apartIn (va_wsS RX7 157 yX7_between wsX7_between) := goodIn_app (goodIn_of _ (by decide +kernel)) ggX7_apartIn_X7_between
set_option maxRecDepth 20000 in
theorem ggX7_ringOf_X7_has : GoodIn wsX7_ringOf wsX7_has := goodIn_r _ [4] (by decide +kernel) (by decide +kernel)
set_option maxRecDepth 20000 in
theorem gX7_ringOf_X7_has : GoodIn wsX7_ringOf (va_wsS RX7 161 yX7_has wsX7_has) := goodIn_app (goodIn_of _ (by decide +kernel)) ggX7_ringOf_X7_has
set_option maxRecDepth 20000 in
theorem ggX7_ringOf_X7_apartIn : GoodIn wsX7_ringOf wsX7_apartIn := goodIn_r _ [7, 8, 9, 3, 10] (by decide +kernel) (by decide +kernel)
set_option maxRecDepth 20000 in
theorem gX7_ringOf_X7_apartIn : GoodIn wsX7_ringOf (va_wsS RX7 165 yX7_apartIn wsX7_apartIn) := goodIn_app (goodIn_of _ (by decide +kernel)) ggX7_ringOf_X7_apartIn
set_option maxRecDepth 20000 in
theorem ggX7_areTogether_X7_legible : GoodIn wsX7_areTogether wsX7_legible := goodIn_r _ [4, 5] (by decide +kernel) (by decide +kernel)
set_option maxRecDepth 20000 in
theorem gX7_areTogether_X7_legible : GoodIn wsX7_areTogether (va_wsS RX7 168 yX7_legible wsX7_legible) := goodIn_app (goodIn_of _ (by decide +kernel)) ggX7_areTogether_X7_legible
set_option maxRecDepth 20000 in
theorem ggX7_areTogether_X7_ringOf : GoodIn wsX7_areTogether wsX7_ringOf := goodIn_r _ [8, 9, 10, 3, 11, 12, 13, 14, 15, 16, 17] (by decide +kernel) (by decide +kernel)
set_option maxRecDepth 20000 in
theorem gX7_areTogether_X7_ringOf : GoodIn wsX7_areTogether (va_wsS RX7 172 yX7_ringOf wsX7_ringOf) := goodIn_app (goodIn_of _ (by decide +kernel)) ggX7_areTogether_X7_ringOf
set_option maxRecDepth 20000 in
theorem ggX7_areTogether_X7_has : GoodIn wsX7_areTogether wsX7_has := goodIn_r _ [11] (by decide +kernel) (by decide +kernel)
set_option maxRecDepth 20000 in
theorem gX7_areTogether_X7_has : GoodIn wsX7_areTogether (va_wsS RX7 161 yX7_has wsX7_has) := goodIn_app (goodIn_of _ (by decide +kernel)) ggX7_areTogether_X7_has
set_option maxRecDepth 20000 in
theorem ggX7_notes_X7_copies : GoodIn wsX7_notes wsX7_copies := goodIn_r _ [7] (by decide +kernel) (by decide +kernel)
set_option maxRecDepth 20000 in
theorem gX7_notes_X7_copies : GoodIn wsX7_notes (va_wsS RX7 135 yX7_copies wsX7_copies) := goodIn_app (goodIn_of _ (by decide +kernel)) ggX7_notes_X7_copies
set_option maxRecDepth 20000 in
theorem ggX7_years_X7_isWood : GoodIn wsX7_years wsX7_isWood := goodIn_r _ [10, 3, 41, 42, 43, 44, 45, 46, 47, 48, 49, 50, 51, 52, 53, 54, 55, 56, 57, 58, 59, 60, 61, 62] (by decide +kernel) (by decide +kernel)
set_option maxRecDepth 20000 in
theorem gX7_years_X7_isWood : GoodIn wsX7_years (wsV RX7 175 RX7 yX7_isWood wsX7_isWood) := goodIn_app (goodIn_of _ (by decide +kernel)) ggX7_years_X7_isWood
set_option maxRecDepth 20000 in
theorem ggX7_years_X7_in : GoodIn wsX7_years wsX7_in := goodIn_r _ [13] (by decide +kernel) (by decide +kernel)
set_option maxRecDepth 20000 in
theorem gX7_years_X7_in : GoodIn wsX7_years (va_wsS RX7 53 yX7_in wsX7_in) := goodIn_app (goodIn_of _ (by decide +kernel)) ggX7_years_X7_in
set_option maxRecDepth 20000 in
theorem ggX7_years_X7_notes : GoodIn wsX7_years wsX7_notes := goodIn_r _ [17, 18, 19, 3, 20, 21, 9, 22, 41, 42, 43, 44, 45, 46, 47, 48, 49, 50, 51, 52, 53, 54, 55, 56, 57, 58, 59, 60, 61, 62] (by decide +kernel) (by decide +kernel)
set_option maxRecDepth 20000 in
theorem gX7_years_X7_notes : GoodIn wsX7_years (wsV RX7 179 RX7 yX7_notes wsX7_notes) := goodIn_app (goodIn_of _ (by decide +kernel)) ggX7_years_X7_notes
set_option maxRecDepth 20000 in
theorem ggX7_years_X7_passes : GoodIn wsX7_years wsX7_passes := goodIn_r _ [25, 26, 27, 9, 28, 29, 30, 31, 32, 33, 34] (by decide +kernel) (by decide +kernel)
set_option maxRecDepth 20000 in
theorem gX7_years_X7_passes : GoodIn wsX7_years (va_wsS RX7 153 yX7_passes wsX7_passes) := goodIn_app (goodIn_of _ (by decide +kernel)) ggX7_years_X7_passes
set_option maxRecDepth 20000 in
theorem ggX7_years_X7_legible : GoodIn wsX7_years wsX7_legible := goodIn_r _ [37, 5] (by decide +kernel) (by decide +kernel)
set_option maxRecDepth 20000 in
theorem gX7_years_X7_legible : GoodIn wsX7_years (va_wsS RX7 168 yX7_legible wsX7_legible) := goodIn_app (goodIn_of _ (by decide +kernel)) ggX7_years_X7_legible
set_option maxRecDepth 20000 in
theorem ggX7_years_X7_ones : GoodIn wsX7_years wsX7_ones := goodIn_r _ [40] (by decide +kernel) (by decide +kernel)
set_option maxRecDepth 20000 in
theorem gX7_years_X7_ones : GoodIn wsX7_years (va_wsS RX7 182 yX7_ones wsX7_ones) := goodIn_app (goodIn_of _ (by decide +kernel)) ggX7_years_X7_ones
set_option maxRecDepth 20000 in
theorem ggX7_cut__X7_isTree : GoodIn wsX7_cut_ wsX7_isTree := goodIn_r _ [9, 2, 10, 11, 8, 12, 25, 26, 27, 28, 29, 30, 31, 32, 33, 34, 35, 36, 37, 38, 39, 40, 41, 42, 43, 44, 45, 46] (by decide +kernel) (by decide +kernel)
set_option maxRecDepth 20000 in
theorem gX7_cut__X7_isTree : GoodIn wsX7_cut_ (wsV RX7 185 RX7 yX7_isTree wsX7_isTree) := goodIn_app (goodIn_of _ (by decide +kernel)) ggX7_cut__X7_isTree
set_option maxRecDepth 20000 in
theorem ggX7_cut__X7_in : GoodIn wsX7_cut_ wsX7_in := goodIn_r _ [12] (by decide +kernel) (by decide +kernel)
set_option maxRecDepth 20000 in
theorem gX7_cut__X7_in : GoodIn wsX7_cut_ (va_wsS RX7 53 yX7_in wsX7_in) := goodIn_app (goodIn_of _ (by decide +kernel)) ggX7_cut__X7_in
set_option maxRecDepth 20000 in
theorem ggX7_cut__X7_isCutAt : GoodIn wsX7_cut_ wsX7_isCutAt := goodIn_r _ [15] (by decide +kernel) (by decide +kernel)
set_option maxRecDepth 20000 in
theorem gX7_cut__X7_isCutAt : GoodIn wsX7_cut_ (va_wsS RX7 124 yX7_isCutAt wsX7_isCutAt) := goodIn_app (goodIn_of _ (by decide +kernel)) ggX7_cut__X7_isCutAt
set_option maxRecDepth 20000 in
theorem ggX7_cut__X7_notes : GoodIn wsX7_cut_ wsX7_notes := goodIn_r _ [19, 20, 21, 2, 22, 23, 8, 24, 25, 26, 27, 28, 29, 30, 31, 32, 33, 34, 35, 36, 37, 38, 39, 40, 41, 42, 43, 44, 45, 46] (by decide +kernel) (by decide +kernel)
set_option maxRecDepth 20000 in
theorem gX7_cut__X7_notes : GoodIn wsX7_cut_ (wsV RX7 179 RX7 yX7_notes wsX7_notes) := goodIn_app (goodIn_of _ (by decide +kernel)) ggX7_cut__X7_notes
set_option maxRecDepth 20000 in
theorem ggX7_anew_X7_isCut : GoodIn wsX7_anew wsX7_isCut := goodIn_r _ [8, 2, 9, 10, 7, 11, 21, 22, 23, 24, 25, 26, 27, 28, 29, 30, 31, 32, 33, 34, 35, 36, 37, 38, 39, 40, 41, 42] (by decide +kernel) (by decide +kernel)
set_option maxRecDepth 20000 in
theorem gX7_anew_X7_isCut : GoodIn wsX7_anew (wsV RX7 188 RX7 yX7_isCut wsX7_isCut) := goodIn_app (goodIn_of _ (by decide +kernel)) ggX7_anew_X7_isCut
set_option maxRecDepth 20000 in
theorem ggX7_anew_X7_in : GoodIn wsX7_anew wsX7_in := goodIn_r _ [11] (by decide +kernel) (by decide +kernel)
set_option maxRecDepth 20000 in
theorem gX7_anew_X7_in : GoodIn wsX7_anew (va_wsS RX7 53 yX7_in wsX7_in) := goodIn_app (goodIn_of _ (by decide +kernel)) ggX7_anew_X7_in
set_option maxRecDepth 20000 in
theorem ggX7_anew_X7_notes : GoodIn wsX7_anew wsX7_notes := goodIn_r _ [15, 16, 17, 2, 18, 19, 7, 20, 21, 22, 23, 24, 25, 26, 27, 28, 29, 30, 31, 32, 33, 34, 35, 36, 37, 38, 39, 40, 41, 42] (by decide +kernel) (by decide +kernel)
set_option maxRecDepth 20000 in
theorem gX7_anew_X7_notes : GoodIn wsX7_anew (wsV RX7 179 RX7 yX7_notes wsX7_notes) := goodIn_app (goodIn_of _ (by decide +kernel)) ggX7_anew_X7_notes
set_option maxRecDepth 20000 in
theorem ggX7_scrape_X7_isCut : GoodIn wsX7_scrape wsX7_isCut := goodIn_r _ [7, 2, 8, 9, 6, 10, 20, 21, 22, 23, 24, 25, 26, 27, 28, 29, 30, 31, 32, 33, 34, 35, 36, 37, 38, 39, 40, 41] (by decide +kernel) (by decide +kernel)
set_option maxRecDepth 20000 in
theorem gX7_scrape_X7_isCut : GoodIn wsX7_scrape (wsV RX7 188 RX7 yX7_isCut wsX7_isCut) := goodIn_app (goodIn_of _ (by decide +kernel)) ggX7_scrape_X7_isCut
set_option maxRecDepth 20000 in
theorem ggX7_scrape_X7_notes : GoodIn wsX7_scrape wsX7_notes := goodIn_r _ [14, 15, 16, 2, 17, 18, 6, 19, 20, 21, 22, 23, 24, 25, 26, 27, 28, 29, 30, 31, 32, 33, 34, 35, 36, 37, 38, 39, 40, 41] (by decide +kernel) (by decide +kernel)
set_option maxRecDepth 20000 in
theorem gX7_scrape_X7_notes : GoodIn wsX7_scrape (wsV RX7 179 RX7 yX7_notes wsX7_notes) := goodIn_app (goodIn_of _ (by decide +kernel)) ggX7_scrape_X7_notes
set_option maxRecDepth 20000 in
theorem ggX7_undo_X7_copies : GoodIn wsX7_undo wsX7_copies := goodIn_r _ [8] (by decide +kernel) (by decide +kernel)
set_option maxRecDepth 20000 in
theorem gX7_undo_X7_copies : GoodIn wsX7_undo (va_wsS RX7 135 yX7_copies wsX7_copies) := goodIn_app (goodIn_of _ (by decide +kernel)) ggX7_undo_X7_copies
set_option maxRecDepth 20000 in
theorem ggX7_tree_X7_isTree : GoodIn wsX7_tree wsX7_isTree := goodIn_r _ [7, 2, 8, 9, 6, 10, 21, 22, 23, 24, 25, 26, 27, 28, 29, 30, 31, 32, 33, 34, 35, 36, 37, 38, 39, 40, 41, 42] (by decide +kernel) (by decide +kernel)
set_option maxRecDepth 20000 in
theorem gX7_tree_X7_isTree : GoodIn wsX7_tree (wsV RX7 185 RX7 yX7_isTree wsX7_isTree) := goodIn_app (goodIn_of _ (by decide +kernel)) ggX7_tree_X7_isTree
set_option maxRecDepth 20000 in
theorem ggX7_tree_X7_legible : GoodIn wsX7_tree wsX7_legible := goodIn_r _ [13, 14] (by decide +kernel) (by decide +kernel)
set_option maxRecDepth 20000 in
theorem gX7_tree_X7_legible : GoodIn wsX7_tree (va_wsS RX7 168 yX7_legible wsX7_legible) := goodIn_app (goodIn_of _ (by decide +kernel)) ggX7_tree_X7_legible
set_option maxRecDepth 20000 in
theorem ggX7_tree_X7_growth : GoodIn wsX7_tree wsX7_growth := goodIn_r _ [17, 18, 19, 6, 20] (by decide +kernel) (by decide +kernel)
set_option maxRecDepth 20000 in
theorem gX7_tree_X7_growth : GoodIn wsX7_tree (va_wsS RX7 146 yX7_growth wsX7_growth) := goodIn_app (goodIn_of _ (by decide +kernel)) ggX7_tree_X7_growth
set_option maxRecDepth 20000 in
theorem ggX7_cutHas_X7_isCut : GoodIn wsX7_cutHas wsX7_isCut := goodIn_r _ [7, 1, 8, 9, 6, 10, 11, 12, 13, 14, 15, 16, 17, 18, 19, 20, 21, 22, 23, 24, 25, 26, 27, 28, 29, 30, 31, 32] (by decide +kernel) (by decide +kernel)
set_option maxRecDepth 20000 in
theorem gX7_cutHas_X7_isCut : GoodIn wsX7_cutHas (wsV RX7 188 RX7 yX7_isCut wsX7_isCut) := goodIn_app (goodIn_of _ (by decide +kernel)) ggX7_cutHas_X7_isCut
set_option maxRecDepth 20000 in
theorem ggX7_cutHas_X7_in : GoodIn wsX7_cutHas wsX7_in := goodIn_r _ [10] (by decide +kernel) (by decide +kernel)
set_option maxRecDepth 20000 in
theorem gX7_cutHas_X7_in : GoodIn wsX7_cutHas (va_wsS RX7 53 yX7_in wsX7_in) := goodIn_app (goodIn_of _ (by decide +kernel)) ggX7_cutHas_X7_in
set_option maxRecDepth 20000 in
theorem ggX7_areOfOne_X7_isCut : GoodIn wsX7_areOfOne wsX7_isCut := goodIn_r _ [6, 1, 7, 8, 5, 9, 10, 11, 12, 13, 14, 15, 16, 17, 18, 19, 20, 21, 22, 23, 24, 25, 26, 27, 28, 29, 30, 31] (by decide +kernel) (by decide +kernel)
set_option maxRecDepth 20000 in
theorem gX7_areOfOne_X7_isCut : GoodIn wsX7_areOfOne (wsV RX7 188 RX7 yX7_isCut wsX7_isCut) := goodIn_app (goodIn_of _ (by decide +kernel)) ggX7_areOfOne_X7_isCut
set_option maxRecDepth 20000 in
theorem ggX7_apart_X7_isCut : GoodIn wsX7_apart wsX7_isCut := goodIn_r _ [8, 2, 9, 10, 7, 11, 22, 23, 24, 25, 26, 27, 28, 29, 30, 31, 32, 33, 34, 35, 36, 37, 38, 39, 40, 41, 42, 43] (by decide +kernel) (by decide +kernel)
set_option maxRecDepth 20000 in
theorem gX7_apart_X7_isCut : GoodIn wsX7_apart (wsV RX7 188 RX7 yX7_isCut wsX7_isCut) := goodIn_app (goodIn_of _ (by decide +kernel)) ggX7_apart_X7_isCut
set_option maxRecDepth 20000 in
theorem ggX7_apart_X7_areOfOne : GoodIn wsX7_apart wsX7_areOfOne := goodIn_r _ [15, 2, 4, 5, 6, 7, 8, 9, 10, 11, 22, 23, 24, 25, 26, 27, 28, 29, 30, 31, 32, 33, 34, 35, 36, 37, 38, 39, 40, 41, 42, 43] (by decide +kernel) (by decide +kernel)
set_option maxRecDepth 20000 in
theorem gX7_apart_X7_areOfOne : GoodIn wsX7_apart (wsV RX7 191 RX7 yX7_areOfOne wsX7_areOfOne) := goodIn_app (goodIn_of _ (by decide +kernel)) ggX7_apart_X7_areOfOne
set_option maxRecDepth 20000 in
theorem ggX7_apart_X7_apartIn : GoodIn wsX7_apart wsX7_apartIn := goodIn_r _ [18, 19, 20, 7, 21] (by decide +kernel) (by decide +kernel)
set_option maxRecDepth 20000 in
theorem gX7_apart_X7_apartIn : GoodIn wsX7_apart (va_wsS RX7 165 yX7_apartIn wsX7_apartIn) := goodIn_app (goodIn_of _ (by decide +kernel)) ggX7_apart_X7_apartIn
set_option maxRecDepth 20000 in
theorem ggX7_together_X7_areOfOne : GoodIn wsX7_together wsX7_areOfOne := goodIn_r _ [7, 2, 8, 9, 10, 6, 11, 12, 13, 14, 34, 35, 36, 37, 38, 39, 40, 41, 42, 43, 44, 45, 46, 47, 48, 49, 50, 51, 52, 53, 54, 55] (by decide +kernel) (by decide +kernel)
set_option maxRecDepth 20000 in
theorem gX7_together_X7_areOfOne : GoodIn wsX7_together (wsV RX7 191 RX7 yX7_areOfOne wsX7_areOfOne) := goodIn_app (goodIn_of _ (by decide +kernel)) ggX7_together_X7_areOfOne
set_option maxRecDepth 20000 in
theorem ggX7_together_X7_areTogether : GoodIn wsX7_together wsX7_areTogether := goodIn_r _ [17, 18, 19, 6, 20, 21, 22, 23, 24, 25, 26, 27, 28, 29, 30, 31, 32, 33] (by decide +kernel) (by decide +kernel)
set_option maxRecDepth 20000 in
theorem gX7_together_X7_areTogether : GoodIn wsX7_together (va_wsS RX7 194 yX7_areTogether wsX7_areTogether) := goodIn_app (goodIn_of _ (by decide +kernel)) ggX7_together_X7_areTogether
set_option maxRecDepth 20000 in
theorem ggX7_girth_X7_isTree : GoodIn wsX7_girth wsX7_isTree := goodIn_r _ [7, 8, 9, 10, 6, 11, 34, 35, 36, 37, 38, 39, 40, 41, 42, 43, 44, 45, 46, 47, 48, 49, 50, 51, 52, 53, 54, 55] (by decide +kernel) (by decide +kernel)
set_option maxRecDepth 20000 in
theorem gX7_girth_X7_isTree : GoodIn wsX7_girth (wsV RX7 185 RX7 yX7_isTree wsX7_isTree) := goodIn_app (goodIn_of _ (by decide +kernel)) ggX7_girth_X7_isTree
set_option maxRecDepth 20000 in
theorem ggX7_girth_X7_isFar : GoodIn wsX7_girth wsX7_isFar := goodIn_r _ [14, 9, 10, 6, 11] (by decide +kernel) (by decide +kernel)
set_option maxRecDepth 20000 in
theorem gX7_girth_X7_isFar : GoodIn wsX7_girth (va_wsS RX7 198 yX7_isFar wsX7_isFar) := goodIn_app (goodIn_of _ (by decide +kernel)) ggX7_girth_X7_isFar
set_option maxRecDepth 20000 in
theorem ggX7_girth_X7_tries : GoodIn wsX7_girth wsX7_tries := goodIn_r _ [18, 8, 2, 19, 20, 6, 21, 22, 23, 24, 25, 26, 27, 28, 29, 30, 31, 32, 33, 34, 35, 36, 37, 38, 39, 40, 41, 42, 43, 44, 45, 46, 47, 48, 49, 50, 51, 52, 53, 54, 55] (by decide +kernel) (by decide +kernel)
set_option maxRecDepth 20000 in
theorem gX7_girth_X7_tries : GoodIn wsX7_girth (wsV RX7 201 RX7 yX7_tries wsX7_tries) := goodIn_app (goodIn_of _ (by decide +kernel)) ggX7_girth_X7_tries
set_option maxRecDepth 20000 in
theorem ggX7_left_X7_isWood : GoodIn wsX7_left wsX7_isWood := goodIn_r _ [9, 10, 39, 40, 41, 42, 43, 44, 45, 46, 47, 48, 49, 50, 51, 52, 53, 54, 55, 56, 57, 58, 59, 60] (by decide +kernel) (by decide +kernel)
set_option maxRecDepth 20000 in
theorem gX7_left_X7_isWood : GoodIn wsX7_left (wsV RX7 175 RX7 yX7_isWood wsX7_isWood) := goodIn_app (goodIn_of _ (by decide +kernel)) ggX7_left_X7_isWood
set_option maxRecDepth 20000 in
theorem ggX7_left_X7_isFar : GoodIn wsX7_left wsX7_isFar := goodIn_r _ [13, 14, 15, 8, 16] (by decide +kernel) (by decide +kernel)
set_option maxRecDepth 20000 in
theorem gX7_left_X7_isFar : GoodIn wsX7_left (va_wsS RX7 198 yX7_isFar wsX7_isFar) := goodIn_app (goodIn_of _ (by decide +kernel)) ggX7_left_X7_isFar
set_option maxRecDepth 20000 in
theorem ggX7_left_X7_tries : GoodIn wsX7_left wsX7_tries := goodIn_r _ [20, 10, 3, 21, 22, 8, 23, 24, 25, 26, 27, 28, 29, 30, 31, 32, 33, 34, 35, 39, 40, 41, 42, 43, 44, 45, 46, 47, 48, 49, 50, 51, 52, 53, 54, 55, 56, 57, 58, 59, 60] (by decide +kernel) (by decide +kernel)
set_option maxRecDepth 20000 in
theorem gX7_left_X7_tries : GoodIn wsX7_left (wsV RX7 201 RX7 yX7_tries wsX7_tries) := goodIn_app (goodIn_of _ (by decide +kernel)) ggX7_left_X7_tries
set_option maxRecDepth 20000 in
theorem ggX7_left_X7_legible : GoodIn wsX7_left wsX7_legible := goodIn_r _ [38, 4] (by decide +kernel) (by decide +kernel)
set_option maxRecDepth 20000 in
theorem gX7_left_X7_legible : GoodIn wsX7_left (va_wsS RX7 168 yX7_legible wsX7_legible) := goodIn_app (goodIn_of _ (by decide +kernel)) ggX7_left_X7_legible
set_option maxRecDepth 20000 in
theorem ggX7_free_X7_areOfOne : GoodIn wsX7_free wsX7_areOfOne := goodIn_r _ [8, 9, 10, 11, 12, 7, 13, 14, 15, 16, 54, 55, 56, 57, 58, 59, 60, 61, 62, 63, 64, 65, 66, 67, 68, 69, 70, 71, 72, 73, 74, 75] (by decide +kernel) (by decide +kernel)
set_option maxRecDepth 20000 in
theorem gX7_free_X7_areOfOne : GoodIn wsX7_free (wsV RX7 191 RX7 yX7_areOfOne wsX7_areOfOne) := goodIn_app (goodIn_of _ (by decide +kernel)) ggX7_free_X7_areOfOne
set_option maxRecDepth 20000 in
theorem ggX7_free_X7_tries : GoodIn wsX7_free wsX7_tries := goodIn_r _ [20, 9, 2, 21, 22, 7, 23, 24, 25, 26, 27, 28, 29, 30, 31, 32, 33, 34, 35, 54, 55, 56, 57, 58, 59, 60, 61, 62, 63, 64, 65, 66, 67, 68, 69, 70, 71, 72, 73, 74, 75] (by decide +kernel) (by decide +kernel)
set_option maxRecDepth 20000 in
theorem gX7_free_X7_tries : GoodIn wsX7_free (wsV RX7 201 RX7 yX7_tries wsX7_tries) := goodIn_app (goodIn_of _ (by decide +kernel)) ggX7_free_X7_tries
set_option maxRecDepth 20000 in
theorem ggX7_free_X7_areTogether : GoodIn wsX7_free wsX7_areTogether := goodIn_r _ [38, 39, 40, 7, 41, 3, 42, 43, 44, 45, 46, 47, 48, 49, 50, 51, 52, 53] (by decide +kernel) (by decide +kernel)
set_option maxRecDepth 20000 in
theorem gX7_free_X7_areTogether : GoodIn wsX7_free (va_wsS RX7 194 yX7_areTogether wsX7_areTogether) := goodIn_app (goodIn_of _ (by decide +kernel)) ggX7_free_X7_areTogether
set_option maxRecDepth 20000 in
theorem ggX7_free_X7_passes : GoodIn wsX7_free wsX7_passes := goodIn_r _ [26, 27, 28, 7, 29, 30, 31, 32, 33, 34, 35] (by decide +kernel) (by decide +kernel)
set_option maxRecDepth 20000 in
theorem gX7_free_X7_passes : GoodIn wsX7_free (va_wsS RX7 153 yX7_passes wsX7_passes) := goodIn_app (goodIn_of _ (by decide +kernel)) ggX7_free_X7_passes
set_option maxRecDepth 20000 in
theorem ggX7_depthIn_X7_growth : GoodIn wsX7_depthIn wsX7_growth := goodIn_r _ [5, 6, 7, 4, 8] (by decide +kernel) (by decide +kernel)
set_option maxRecDepth 20000 in
theorem gX7_depthIn_X7_growth : GoodIn wsX7_depthIn (va_wsS RX7 146 yX7_growth wsX7_growth) := goodIn_app (goodIn_of _ (by decide +kernel)) ggX7_depthIn_X7_growth
set_option maxRecDepth 20000 in
theorem ggX7_depthIn_X7_heals : GoodIn wsX7_depthIn wsX7_heals := goodIn_r _ [11] (by decide +kernel) (by decide +kernel)
set_option maxRecDepth 20000 in
theorem gX7_depthIn_X7_heals : GoodIn wsX7_depthIn (va_wsS RX7 150 yX7_heals wsX7_heals) := goodIn_app (goodIn_of _ (by decide +kernel)) ggX7_depthIn_X7_heals
set_option maxRecDepth 20000 in
theorem ggX7_holds_X7_isWood : GoodIn wsX7_holds wsX7_isWood := goodIn_r _ [9, 3, 39, 40, 41, 42, 43, 44, 45, 46, 47, 48, 49, 50, 51, 52, 53, 54, 55, 56, 57, 58, 59, 60] (by decide +kernel) (by decide +kernel)
set_option maxRecDepth 20000 in
theorem gX7_holds_X7_isWood : GoodIn wsX7_holds (wsV RX7 175 RX7 yX7_isWood wsX7_isWood) := goodIn_app (goodIn_of _ (by decide +kernel)) ggX7_holds_X7_isWood
set_option maxRecDepth 20000 in
theorem ggX7_holds_X7_in : GoodIn wsX7_holds wsX7_in := goodIn_r _ [12] (by decide +kernel) (by decide +kernel)
set_option maxRecDepth 20000 in
theorem gX7_holds_X7_in : GoodIn wsX7_holds (va_wsS RX7 53 yX7_in wsX7_in) := goodIn_app (goodIn_of _ (by decide +kernel)) ggX7_holds_X7_in
set_option maxRecDepth 20000 in
theorem ggX7_holds_X7_isFar : GoodIn wsX7_holds wsX7_isFar := goodIn_r _ [15, 10, 11, 8, 12] (by decide +kernel) (by decide +kernel)
set_option maxRecDepth 20000 in
theorem gX7_holds_X7_isFar : GoodIn wsX7_holds (va_wsS RX7 198 yX7_isFar wsX7_isFar) := goodIn_app (goodIn_of _ (by decide +kernel)) ggX7_holds_X7_isFar
set_option maxRecDepth 20000 in
theorem ggX7_holds_X7_tries : GoodIn wsX7_holds wsX7_tries := goodIn_r _ [19, 3, 4, 20, 21, 8, 22, 23, 24, 25, 26, 27, 28, 29, 30, 31, 32, 33, 34, 39, 40, 41, 42, 43, 44, 45, 46, 47, 48, 49, 50, 51, 52, 53, 54, 55, 56, 57, 58, 59, 60] (by decide +kernel) (by decide +kernel)
set_option maxRecDepth 20000 in
theorem gX7_holds_X7_tries : GoodIn wsX7_holds (wsV RX7 201 RX7 yX7_tries wsX7_tries) := goodIn_app (goodIn_of _ (by decide +kernel)) ggX7_holds_X7_tries
set_option maxRecDepth 20000 in
theorem ggX7_holds_X7_depthIn : GoodIn wsX7_holds wsX7_depthIn := goodIn_r _ [38, 3, 26, 27, 8, 28, 29, 30, 31, 32, 33, 34, 39, 40, 41, 42, 43, 44, 45, 46, 47, 48, 49, 50, 51, 52, 53, 54, 55, 56, 57, 58, 59, 60] (by decide +kernel) (by decide +kernel)
set_option maxRecDepth 20000 in
theorem gX7_holds_X7_depthIn : GoodIn wsX7_holds (wsV RX7 205 RX7 yX7_depthIn wsX7_depthIn) := goodIn_app (goodIn_of _ (by decide +kernel)) ggX7_holds_X7_depthIn
set_option maxRecDepth 20000 in
theorem ggX7_deep_X7_isTree : GoodIn wsX7_deep wsX7_isTree := goodIn_r _ [7, 8, 9, 10, 6, 11, 28, 29, 30, 31, 32, 33, 34, 35, 36, 37, 38, 39, 40, 41, 42, 43, 44, 45, 46, 47, 48, 49] (by decide +kernel) (by decide +kernel)
set_option maxRecDepth 20000 in
theorem gX7_deep_X7_isTree : GoodIn wsX7_deep (wsV RX7 185 RX7 yX7_isTree wsX7_isTree) := goodIn_app (goodIn_of _ (by decide +kernel)) ggX7_deep_X7_isTree
set_option maxRecDepth 20000 in
theorem ggX7_deep_X7_isFar : GoodIn wsX7_deep wsX7_isFar := goodIn_r _ [14, 9, 10, 6, 11] (by decide +kernel) (by decide +kernel)
set_option maxRecDepth 20000 in
theorem gX7_deep_X7_isFar : GoodIn wsX7_deep (va_wsS RX7 198 yX7_isFar wsX7_isFar) := goodIn_app (goodIn_of _ (by decide +kernel)) ggX7_deep_X7_isFar
set_option maxRecDepth 20000 in
theorem ggX7_deep_X7_depthIn : GoodIn wsX7_deep wsX7_depthIn := goodIn_r _ [18, 8, 19, 20, 6, 21, 22, 23, 24, 25, 26, 27, 28, 29, 30, 31, 32, 33, 34, 35, 36, 37, 38, 39, 40, 41, 42, 43, 44, 45, 46, 47, 48, 49] (by decide +kernel) (by decide +kernel)
set_option maxRecDepth 20000 in
theorem gX7_deep_X7_depthIn : GoodIn wsX7_deep (wsV RX7 205 RX7 yX7_depthIn wsX7_depthIn) := goodIn_app (goodIn_of _ (by decide +kernel)) ggX7_deep_X7_depthIn
set_option maxRecDepth 20000 in
theorem ggX7_meet_X7_isTree : GoodIn wsX7_meet wsX7_isTree := goodIn_r _ [8, 2, 9, 10, 7, 11, 21, 22, 23, 24, 25, 26, 27, 28, 29, 30, 31, 32, 33, 34, 35, 36, 37, 38, 39, 40, 41, 42] (by decide +kernel) (by decide +kernel)
set_option maxRecDepth 20000 in
theorem gX7_meet_X7_isTree : GoodIn wsX7_meet (wsV RX7 185 RX7 yX7_isTree wsX7_isTree) := goodIn_app (goodIn_of _ (by decide +kernel)) ggX7_meet_X7_isTree
set_option maxRecDepth 20000 in
theorem ggX7_meet_X7_in : GoodIn wsX7_meet wsX7_in := goodIn_r _ [11] (by decide +kernel) (by decide +kernel)
set_option maxRecDepth 20000 in
theorem gX7_meet_X7_in : GoodIn wsX7_meet (va_wsS RX7 53 yX7_in wsX7_in) := goodIn_app (goodIn_of _ (by decide +kernel)) ggX7_meet_X7_in
set_option maxRecDepth 20000 in
theorem ggX7_meet_X7_legible : GoodIn wsX7_meet wsX7_legible := goodIn_r _ [14, 3] (by decide +kernel) (by decide +kernel)
set_option maxRecDepth 20000 in
theorem gX7_meet_X7_legible : GoodIn wsX7_meet (va_wsS RX7 168 yX7_legible wsX7_legible) := goodIn_app (goodIn_of _ (by decide +kernel)) ggX7_meet_X7_legible
set_option maxRecDepth 20000 in
theorem ggX7_meet_X7_has : GoodIn wsX7_meet wsX7_has := goodIn_r _ [17] (by decide +kernel) (by decide +kernel)
set_option maxRecDepth 20000 in
theorem gX7_meet_X7_has : GoodIn wsX7_meet (va_wsS RX7 161 yX7_has wsX7_has) := goodIn_app (goodIn_of _ (by decide +kernel)) ggX7_meet_X7_has
set_option maxRecDepth 20000 in
theorem ggX7_meet_X7_between : GoodIn wsX7_meet wsX7_between := goodIn_r _ [20] (by decide +kernel) (by decide +kernel)
set_option maxRecDepth 20000 in
theorem gX7_meet_X7_between : GoodIn wsX7_meet (va_wsS RX7 157 yX7_between wsX7_between) := goodIn_app (goodIn_of _ (by decide +kernel)) ggX7_meet_X7_between
set_option maxRecDepth 20000 in
theorem ggX7_rings_X7_isTree : GoodIn wsX7_rings wsX7_isTree := goodIn_r _ [7, 2, 8, 9, 6, 10, 30, 31, 32, 33, 34, 35, 36, 37, 38, 39, 40, 41, 42, 43, 44, 45, 46, 47, 48, 49, 50, 51] (by decide +kernel) (by decide +kernel)
set_option maxRecDepth 20000 in
theorem gX7_rings_X7_isTree : GoodIn wsX7_rings (wsV RX7 185 RX7 yX7_isTree wsX7_isTree) := goodIn_app (goodIn_of _ (by decide +kernel)) ggX7_rings_X7_isTree
set_option maxRecDepth 20000 in
theorem ggX7_rings_X7_in : GoodIn wsX7_rings wsX7_in := goodIn_r _ [10] (by decide +kernel) (by decide +kernel)
set_option maxRecDepth 20000 in
theorem gX7_rings_X7_in : GoodIn wsX7_rings (va_wsS RX7 53 yX7_in wsX7_in) := goodIn_app (goodIn_of _ (by decide +kernel)) ggX7_rings_X7_in
set_option maxRecDepth 20000 in
theorem ggX7_rings_X7_legible : GoodIn wsX7_rings wsX7_legible := goodIn_r _ [13, 14] (by decide +kernel) (by decide +kernel)
set_option maxRecDepth 20000 in
theorem gX7_rings_X7_legible : GoodIn wsX7_rings (va_wsS RX7 168 yX7_legible wsX7_legible) := goodIn_app (goodIn_of _ (by decide +kernel)) ggX7_rings_X7_legible
set_option maxRecDepth 20000 in
theorem ggX7_rings_X7_has : GoodIn wsX7_rings wsX7_has := goodIn_r _ [17] (by decide +kernel) (by decide +kernel)
set_option maxRecDepth 20000 in
theorem gX7_rings_X7_has : GoodIn wsX7_rings (va_wsS RX7 161 yX7_has wsX7_has) := goodIn_app (goodIn_of _ (by decide +kernel)) ggX7_rings_X7_has
set_option maxRecDepth 20000 in
theorem ggX7_rings_X7_ringOf : GoodIn wsX7_rings wsX7_ringOf := goodIn_r _ [20, 15, 16, 6, 17, 21, 22, 23, 24, 25, 26] (by decide +kernel) (by decide +kernel)
set_option maxRecDepth 20000 in
theorem gX7_rings_X7_ringOf : GoodIn wsX7_rings (va_wsS RX7 172 yX7_ringOf wsX7_ringOf) := goodIn_app (goodIn_of _ (by decide +kernel)) ggX7_rings_X7_ringOf
set_option maxRecDepth 20000 in
theorem ggX7_rings_X7_ones : GoodIn wsX7_rings wsX7_ones := goodIn_r _ [29] (by decide +kernel) (by decide +kernel)
set_option maxRecDepth 20000 in
theorem gX7_rings_X7_ones : GoodIn wsX7_rings (va_wsS RX7 182 yX7_ones wsX7_ones) := goodIn_app (goodIn_of _ (by decide +kernel)) ggX7_rings_X7_ones
set_option maxRecDepth 20000 in
theorem ggX7_gaps_X7_isCut : GoodIn wsX7_gaps wsX7_isCut := goodIn_r _ [8, 2, 9, 10, 7, 11, 49, 50, 51, 52, 53, 54, 55, 56, 57, 58, 59, 60, 61, 62, 63, 64, 65, 66, 67, 68, 69, 70] (by decide +kernel) (by decide +kernel)
set_option maxRecDepth 20000 in
theorem gX7_gaps_X7_isCut : GoodIn wsX7_gaps (wsV RX7 188 RX7 yX7_isCut wsX7_isCut) := goodIn_app (goodIn_of _ (by decide +kernel)) ggX7_gaps_X7_isCut
set_option maxRecDepth 20000 in
theorem ggX7_gaps_X7_isRow : GoodIn wsX7_gaps wsX7_isRow := goodIn_r _ [14, 9, 10, 7, 11] (by decide +kernel) (by decide +kernel)
set_option maxRecDepth 20000 in
theorem gX7_gaps_X7_isRow : GoodIn wsX7_gaps (va_wsS RX7 57 yX7_isRow wsX7_isRow) := goodIn_app (goodIn_of _ (by decide +kernel)) ggX7_gaps_X7_isRow
set_option maxRecDepth 20000 in
theorem ggX7_gaps_X7_in : GoodIn wsX7_gaps wsX7_in := goodIn_r _ [11] (by decide +kernel) (by decide +kernel)
set_option maxRecDepth 20000 in
theorem gX7_gaps_X7_in : GoodIn wsX7_gaps (va_wsS RX7 53 yX7_in wsX7_in) := goodIn_app (goodIn_of _ (by decide +kernel)) ggX7_gaps_X7_in
set_option maxRecDepth 20000 in
theorem ggX7_gaps_X7_isMissing : GoodIn wsX7_gaps wsX7_isMissing := goodIn_r _ [18, 19, 20, 49, 50, 51, 52, 53, 54, 55, 56, 57, 58, 59, 60, 61, 62, 63, 64, 65, 66, 67, 68, 69, 70] (by decide +kernel) (by decide +kernel)
set_option maxRecDepth 20000 in
theorem gX7_gaps_X7_isMissing : GoodIn wsX7_gaps (wsV RX7 69 RX7 yX7_isMissing wsX7_isMissing) := goodIn_app (goodIn_of _ (by decide +kernel)) ggX7_gaps_X7_isMissing
set_option maxRecDepth 20000 in
theorem ggX7_gaps_X7_found : GoodIn wsX7_gaps wsX7_found := goodIn_r _ [24, 25, 26, 49, 50, 51, 52, 53, 54, 55, 56, 57, 58, 59, 60, 61, 62, 63, 64, 65, 66, 67, 68, 69, 70] (by decide +kernel) (by decide +kernel)
set_option maxRecDepth 20000 in
theorem gX7_gaps_X7_found : GoodIn wsX7_gaps (wsV RX7 62 RX7 yX7_found wsX7_found) := goodIn_app (goodIn_of _ (by decide +kernel)) ggX7_gaps_X7_found
set_option maxRecDepth 20000 in
theorem ggX7_gaps_X7_isPart : GoodIn wsX7_gaps wsX7_isPart := goodIn_r _ [30, 31, 49, 50, 51, 52, 53, 54, 55, 56, 57, 58, 59, 60, 61, 62, 63, 64, 65, 66, 67, 68, 69, 70] (by decide +kernel) (by decide +kernel)
set_option maxRecDepth 20000 in
theorem gX7_gaps_X7_isPart : GoodIn wsX7_gaps (wsV RX7 76 RX7 yX7_isPart wsX7_isPart) := goodIn_app (goodIn_of _ (by decide +kernel)) ggX7_gaps_X7_isPart
set_option maxRecDepth 20000 in
theorem ggX7_gaps_X7_depthIn : GoodIn wsX7_gaps wsX7_depthIn := goodIn_r _ [35, 2, 36, 37, 7, 38, 39, 40, 41, 42, 43, 44, 49, 50, 51, 52, 53, 54, 55, 56, 57, 58, 59, 60, 61, 62, 63, 64, 65, 66, 67, 68, 69, 70] (by decide +kernel) (by decide +kernel)
set_option maxRecDepth 20000 in
theorem gX7_gaps_X7_depthIn : GoodIn wsX7_gaps (wsV RX7 205 RX7 yX7_depthIn wsX7_depthIn) := goodIn_app (goodIn_of _ (by decide +kernel)) ggX7_gaps_X7_depthIn
set_option maxRecDepth 20000 in
theorem ggX7_gaps_X7_well : GoodIn wsX7_gaps wsX7_well := goodIn_r _ [48, 25, 49, 50, 51, 52, 53, 54, 55, 56, 57, 58, 59, 60, 61, 62, 63, 64, 65, 66, 67, 68, 69, 70] (by decide +kernel) (by decide +kernel)
set_option maxRecDepth 20000 in
theorem gX7_gaps_X7_well : GoodIn wsX7_gaps (wsV RX7 66 RX7 yX7_well wsX7_well) := goodIn_app (goodIn_of _ (by decide +kernel)) ggX7_gaps_X7_well
set_option maxRecDepth 20000 in
theorem ggX7_growsSo_X7_growth : GoodIn wsX7_growsSo wsX7_growth := goodIn_r _ [6, 7, 8, 5, 9] (by decide +kernel) (by decide +kernel)
set_option maxRecDepth 20000 in
theorem gX7_growsSo_X7_growth : GoodIn wsX7_growsSo (va_wsS RX7 146 yX7_growth wsX7_growth) := goodIn_app (goodIn_of _ (by decide +kernel)) ggX7_growsSo_X7_growth
set_option maxRecDepth 20000 in
theorem ggX7_which_X7_isTree : GoodIn wsX7_which wsX7_isTree := goodIn_r _ [7, 2, 8, 9, 6, 10, 46, 47, 48, 49, 50, 51, 52, 53, 54, 55, 56, 57, 58, 59, 60, 61, 62, 63, 64, 65, 66, 67] (by decide +kernel) (by decide +kernel)
set_option maxRecDepth 20000 in
theorem gX7_which_X7_isTree : GoodIn wsX7_which (wsV RX7 185 RX7 yX7_isTree wsX7_isTree) := goodIn_app (goodIn_of _ (by decide +kernel)) ggX7_which_X7_isTree
set_option maxRecDepth 20000 in
theorem ggX7_which_X7_isRow : GoodIn wsX7_which wsX7_isRow := goodIn_r _ [13, 8, 9, 6, 10] (by decide +kernel) (by decide +kernel)
set_option maxRecDepth 20000 in
theorem gX7_which_X7_isRow : GoodIn wsX7_which (va_wsS RX7 57 yX7_isRow wsX7_isRow) := goodIn_app (goodIn_of _ (by decide +kernel)) ggX7_which_X7_isRow
set_option maxRecDepth 20000 in
theorem ggX7_which_X7_in : GoodIn wsX7_which wsX7_in := goodIn_r _ [10] (by decide +kernel) (by decide +kernel)
set_option maxRecDepth 20000 in
theorem gX7_which_X7_in : GoodIn wsX7_which (va_wsS RX7 53 yX7_in wsX7_in) := goodIn_app (goodIn_of _ (by decide +kernel)) ggX7_which_X7_in
set_option maxRecDepth 20000 in
theorem ggX7_which_X7_isMissing : GoodIn wsX7_which wsX7_isMissing := goodIn_r _ [17, 18, 19, 46, 47, 48, 49, 50, 51, 52, 53, 54, 55, 56, 57, 58, 59, 60, 61, 62, 63, 64, 65, 66, 67] (by decide +kernel) (by decide +kernel)
set_option maxRecDepth 20000 in
theorem gX7_which_X7_isMissing : GoodIn wsX7_which (wsV RX7 69 RX7 yX7_isMissing wsX7_isMissing) := goodIn_app (goodIn_of _ (by decide +kernel)) ggX7_which_X7_isMissing
set_option maxRecDepth 20000 in
theorem ggX7_which_X7_found : GoodIn wsX7_which wsX7_found := goodIn_r _ [23, 24, 25, 46, 47, 48, 49, 50, 51, 52, 53, 54, 55, 56, 57, 58, 59, 60, 61, 62, 63, 64, 65, 66, 67] (by decide +kernel) (by decide +kernel)
set_option maxRecDepth 20000 in
theorem gX7_which_X7_found : GoodIn wsX7_which (wsV RX7 62 RX7 yX7_found wsX7_found) := goodIn_app (goodIn_of _ (by decide +kernel)) ggX7_which_X7_found
set_option maxRecDepth 20000 in
theorem ggX7_which_X7_isPart : GoodIn wsX7_which wsX7_isPart := goodIn_r _ [29, 30, 46, 47, 48, 49, 50, 51, 52, 53, 54, 55, 56, 57, 58, 59, 60, 61, 62, 63, 64, 65, 66, 67] (by decide +kernel) (by decide +kernel)
set_option maxRecDepth 20000 in
theorem gX7_which_X7_isPart : GoodIn wsX7_which (wsV RX7 76 RX7 yX7_isPart wsX7_isPart) := goodIn_app (goodIn_of _ (by decide +kernel)) ggX7_which_X7_isPart
set_option maxRecDepth 20000 in
theorem ggX7_which_X7_growsSo : GoodIn wsX7_which wsX7_growsSo := goodIn_r _ [34, 2, 35, 36, 37, 6, 38, 39, 40, 41, 46, 47, 48, 49, 50, 51, 52, 53, 54, 55, 56, 57, 58, 59, 60, 61, 62, 63, 64, 65, 66, 67] (by decide +kernel) (by decide +kernel)
set_option maxRecDepth 20000 in
theorem gX7_which_X7_growsSo : GoodIn wsX7_which (wsV RX7 208 RX7 yX7_growsSo wsX7_growsSo) := goodIn_app (goodIn_of _ (by decide +kernel)) ggX7_which_X7_growsSo
set_option maxRecDepth 20000 in
theorem ggX7_which_X7_well : GoodIn wsX7_which wsX7_well := goodIn_r _ [45, 24, 46, 47, 48, 49, 50, 51, 52, 53, 54, 55, 56, 57, 58, 59, 60, 61, 62, 63, 64, 65, 66, 67] (by decide +kernel) (by decide +kernel)
set_option maxRecDepth 20000 in
theorem gX7_which_X7_well : GoodIn wsX7_which (wsV RX7 66 RX7 yX7_well wsX7_well) := goodIn_app (goodIn_of _ (by decide +kernel)) ggX7_which_X7_well
set_option maxRecDepth 20000 in
theorem ggX7_storm_X7_areOfOne : GoodIn wsX7_storm wsX7_areOfOne := goodIn_r _ [7, 2, 8, 9, 10, 6, 11, 12, 13, 14, 34, 35, 36, 37, 38, 39, 40, 41, 42, 43, 44, 45, 46, 47, 48, 49, 50, 51, 52, 53, 54, 55] (by decide +kernel) (by decide +kernel)
set_option maxRecDepth 20000 in
theorem gX7_storm_X7_areOfOne : GoodIn wsX7_storm (wsV RX7 191 RX7 yX7_areOfOne wsX7_areOfOne) := goodIn_app (goodIn_of _ (by decide +kernel)) ggX7_storm_X7_areOfOne
set_option maxRecDepth 20000 in
theorem ggX7_storm_X7_in : GoodIn wsX7_storm wsX7_in := goodIn_r _ [14] (by decide +kernel) (by decide +kernel)
set_option maxRecDepth 20000 in
theorem gX7_storm_X7_in : GoodIn wsX7_storm (va_wsS RX7 53 yX7_in wsX7_in) := goodIn_app (goodIn_of _ (by decide +kernel)) ggX7_storm_X7_in
set_option maxRecDepth 20000 in
theorem ggX7_storm_X7_legible : GoodIn wsX7_storm wsX7_legible := goodIn_r _ [17, 18] (by decide +kernel) (by decide +kernel)
set_option maxRecDepth 20000 in
theorem gX7_storm_X7_legible : GoodIn wsX7_storm (va_wsS RX7 168 yX7_legible wsX7_legible) := goodIn_app (goodIn_of _ (by decide +kernel)) ggX7_storm_X7_legible
set_option maxRecDepth 20000 in
theorem ggX7_storm_X7_has : GoodIn wsX7_storm wsX7_has := goodIn_r _ [21] (by decide +kernel) (by decide +kernel)
set_option maxRecDepth 20000 in
theorem gX7_storm_X7_has : GoodIn wsX7_storm (va_wsS RX7 161 yX7_has wsX7_has) := goodIn_app (goodIn_of _ (by decide +kernel)) ggX7_storm_X7_has
set_option maxRecDepth 20000 in
theorem ggX7_storm_X7_areTogether : GoodIn wsX7_storm wsX7_areTogether := goodIn_r _ [24, 15, 16, 6, 17, 18, 25, 26, 27, 19, 20, 21, 28, 29, 30, 31, 32, 33] (by decide +kernel) (by decide +kernel)
set_option maxRecDepth 20000 in
theorem gX7_storm_X7_areTogether : GoodIn wsX7_storm (va_wsS RX7 194 yX7_areTogether wsX7_areTogether) := goodIn_app (goodIn_of _ (by decide +kernel)) ggX7_storm_X7_areTogether
set_option maxRecDepth 20000 in
theorem ggX7_image_X7_in : GoodIn wsX7_image wsX7_in := goodIn_r _ [9] (by decide +kernel) (by decide +kernel)
set_option maxRecDepth 20000 in
theorem gX7_image_X7_in : GoodIn wsX7_image (va_wsS RX7 53 yX7_in wsX7_in) := goodIn_app (goodIn_of _ (by decide +kernel)) ggX7_image_X7_in
set_option maxRecDepth 20000 in
theorem ggX7_image_X7_isWood : GoodIn wsX7_image wsX7_isWood := goodIn_r _ [13, 3, 17, 18, 19, 20, 21, 22, 23, 24, 25, 26, 27, 28, 29, 30, 31, 32, 33, 34, 35, 36, 37, 38] (by decide +kernel) (by decide +kernel)
set_option maxRecDepth 20000 in
theorem gX7_image_X7_isWood : GoodIn wsX7_image (wsV RX7 175 RX7 yX7_isWood wsX7_isWood) := goodIn_app (goodIn_of _ (by decide +kernel)) ggX7_image_X7_isWood
set_option maxRecDepth 20000 in
theorem ggX7_image_X7_copies : GoodIn wsX7_image wsX7_copies := goodIn_r _ [16] (by decide +kernel) (by decide +kernel)
set_option maxRecDepth 20000 in
theorem gX7_image_X7_copies : GoodIn wsX7_image (va_wsS RX7 135 yX7_copies wsX7_copies) := goodIn_app (goodIn_of _ (by decide +kernel)) ggX7_image_X7_copies
set_option maxRecDepth 20000 in
theorem ggX7_restore_X7_in : GoodIn wsX7_restore wsX7_in := goodIn_r _ [10] (by decide +kernel) (by decide +kernel)
set_option maxRecDepth 20000 in
theorem gX7_restore_X7_in : GoodIn wsX7_restore (va_wsS RX7 53 yX7_in wsX7_in) := goodIn_app (goodIn_of _ (by decide +kernel)) ggX7_restore_X7_in
set_option maxRecDepth 20000 in
theorem ggX7_restore_X7_copies : GoodIn wsX7_restore wsX7_copies := goodIn_r _ [13] (by decide +kernel) (by decide +kernel)
set_option maxRecDepth 20000 in
theorem gX7_restore_X7_copies : GoodIn wsX7_restore (va_wsS RX7 135 yX7_copies wsX7_copies) := goodIn_app (goodIn_of _ (by decide +kernel)) ggX7_restore_X7_copies
set_option maxRecDepth 20000 in
theorem ggX7_kind_X7_isTree : GoodIn wsX7_kind wsX7_isTree := goodIn_r _ [6, 7, 8, 9, 5, 10, 15, 16, 17, 18, 19, 20, 21, 22, 23, 24, 25, 26, 27, 28, 29, 30, 31, 32, 33, 34, 35, 36] (by decide +kernel) (by decide +kernel)
set_option maxRecDepth 20000 in
theorem gX7_kind_X7_isTree : GoodIn wsX7_kind (wsV RX7 185 RX7 yX7_isTree wsX7_isTree) := goodIn_app (goodIn_of _ (by decide +kernel)) ggX7_kind_X7_isTree
set_option maxRecDepth 20000 in
theorem ggX7_kind_X7_kindIn : GoodIn wsX7_kind wsX7_kindIn := goodIn_r _ [14, 7, 15, 16, 17, 18, 19, 20, 21, 22, 23, 24, 25, 26, 27, 28, 29, 30, 31, 32, 33, 34, 35, 36] (by decide +kernel) (by decide +kernel)
set_option maxRecDepth 20000 in
theorem gX7_kind_X7_kindIn : GoodIn wsX7_kind (wsV RX7 212 RX7 yX7_kindIn wsX7_kindIn) := goodIn_app (goodIn_of _ (by decide +kernel)) ggX7_kind_X7_kindIn
set_option maxRecDepth 20000 in
theorem ggX7_as_X7_isTree : GoodIn wsX7_as wsX7_isTree := goodIn_r _ [6, 7, 8, 9, 5, 10, 25, 26, 27, 28, 29, 30, 31, 32, 33, 34, 35, 36, 37, 38, 39, 40, 41, 42, 43, 44, 45, 46] (by decide +kernel) (by decide +kernel)
set_option maxRecDepth 20000 in
theorem gX7_as_X7_isTree : GoodIn wsX7_as (wsV RX7 185 RX7 yX7_isTree wsX7_isTree) := goodIn_app (goodIn_of _ (by decide +kernel)) ggX7_as_X7_isTree
set_option maxRecDepth 20000 in
theorem ggX7_as_X7_in : GoodIn wsX7_as wsX7_in := goodIn_r _ [10] (by decide +kernel) (by decide +kernel)
set_option maxRecDepth 20000 in
theorem gX7_as_X7_in : GoodIn wsX7_as (va_wsS RX7 53 yX7_in wsX7_in) := goodIn_app (goodIn_of _ (by decide +kernel)) ggX7_as_X7_in
set_option maxRecDepth 20000 in
theorem ggX7_as_X7_kindIn : GoodIn wsX7_as wsX7_kindIn := goodIn_r _ [14, 7, 25, 26, 27, 28, 29, 30, 31, 32, 33, 34, 35, 36, 37, 38, 39, 40, 41, 42, 43, 44, 45, 46] (by decide +kernel) (by decide +kernel)
set_option maxRecDepth 20000 in
theorem gX7_as_X7_kindIn : GoodIn wsX7_as (wsV RX7 212 RX7 yX7_kindIn wsX7_kindIn) := goodIn_app (goodIn_of _ (by decide +kernel)) ggX7_as_X7_kindIn
set_option maxRecDepth 20000 in
theorem ggX7_as_X7_well : GoodIn wsX7_as wsX7_well := goodIn_r _ [18, 19, 25, 26, 27, 28, 29, 30, 31, 32, 33, 34, 35, 36, 37, 38, 39, 40, 41, 42, 43, 44, 45, 46] (by decide +kernel) (by decide +kernel)
set_option maxRecDepth 20000 in
theorem gX7_as_X7_well : GoodIn wsX7_as (wsV RX7 66 RX7 yX7_well wsX7_well) := goodIn_app (goodIn_of _ (by decide +kernel)) ggX7_as_X7_well
set_option maxRecDepth 20000 in
theorem ggX7_as_X7_found : GoodIn wsX7_as wsX7_found := goodIn_r _ [23, 19, 24, 25, 26, 27, 28, 29, 30, 31, 32, 33, 34, 35, 36, 37, 38, 39, 40, 41, 42, 43, 44, 45, 46] (by decide +kernel) (by decide +kernel)
set_option maxRecDepth 20000 in
theorem gX7_as_X7_found : GoodIn wsX7_as (wsV RX7 62 RX7 yX7_found wsX7_found) := goodIn_app (goodIn_of _ (by decide +kernel)) ggX7_as_X7_found
set_option maxRecDepth 20000 in
theorem ggX7_beechMark_X7_kindIn : GoodIn wsX7_beechMark wsX7_kindIn := goodIn_r _ [6, 1, 13, 14, 15, 16, 17, 18, 19, 20, 21, 22, 23, 24, 25, 26, 27, 28, 29, 30, 31, 32, 33, 34] (by decide +kernel) (by decide +kernel)
set_option maxRecDepth 20000 in
theorem gX7_beechMark_X7_kindIn : GoodIn wsX7_beechMark (wsV RX7 212 RX7 yX7_kindIn wsX7_kindIn) := goodIn_app (goodIn_of _ (by decide +kernel)) ggX7_beechMark_X7_kindIn
set_option maxRecDepth 20000 in
theorem ggX7_beechMark_X7_begins : GoodIn wsX7_beechMark wsX7_begins := goodIn_r _ [10, 11, 12, 13, 14, 15, 16, 17, 18, 19, 20, 21, 22, 23, 24, 25, 26, 27, 28, 29, 30, 31, 32, 33, 34] (by decide +kernel) (by decide +kernel)
set_option maxRecDepth 20000 in
theorem gX7_beechMark_X7_begins : GoodIn wsX7_beechMark (wsV RX7 218 RX7 yX7_begins wsX7_begins) := goodIn_app (goodIn_of _ (by decide +kernel)) ggX7_beechMark_X7_begins
set_option maxRecDepth 20000 in
theorem ggX7_pineSize_X7_kindIn : GoodIn wsX7_pineSize wsX7_kindIn := goodIn_r _ [6, 1, 13, 14, 15, 16, 17, 18, 19, 20, 21, 22, 23, 24, 25, 26, 27, 28, 29, 30, 31, 32, 33, 34] (by decide +kernel) (by decide +kernel)
set_option maxRecDepth 20000 in
theorem gX7_pineSize_X7_kindIn : GoodIn wsX7_pineSize (wsV RX7 212 RX7 yX7_kindIn wsX7_kindIn) := goodIn_app (goodIn_of _ (by decide +kernel)) ggX7_pineSize_X7_kindIn
set_option maxRecDepth 20000 in
theorem ggX7_pineSize_X7_begins : GoodIn wsX7_pineSize wsX7_begins := goodIn_r _ [10, 11, 12, 13, 14, 15, 16, 17, 18, 19, 20, 21, 22, 23, 24, 25, 26, 27, 28, 29, 30, 31, 32, 33, 34] (by decide +kernel) (by decide +kernel)
set_option maxRecDepth 20000 in
theorem gX7_pineSize_X7_begins : GoodIn wsX7_pineSize (wsV RX7 218 RX7 yX7_begins wsX7_begins) := goodIn_app (goodIn_of _ (by decide +kernel)) ggX7_pineSize_X7_begins
set_option maxRecDepth 20000 in
theorem ggX7_beechSize_X7_kindIn : GoodIn wsX7_beechSize wsX7_kindIn := goodIn_r _ [6, 1, 17, 18, 19, 20, 21, 22, 23, 24, 25, 26, 27, 28, 29, 30, 31, 32, 33, 34, 35, 36, 37, 38] (by decide +kernel) (by decide +kernel)
set_option maxRecDepth 20000 in
theorem gX7_beechSize_X7_kindIn : GoodIn wsX7_beechSize (wsV RX7 212 RX7 yX7_kindIn wsX7_kindIn) := goodIn_app (goodIn_of _ (by decide +kernel)) ggX7_beechSize_X7_kindIn
set_option maxRecDepth 20000 in
theorem ggX7_beechSize_X7_begins : GoodIn wsX7_beechSize wsX7_begins := goodIn_r _ [10, 11, 12, 17, 18, 19, 20, 21, 22, 23, 24, 25, 26, 27, 28, 29, 30, 31, 32, 33, 34, 35, 36, 37, 38] (by decide +kernel) (by decide +kernel)
set_option maxRecDepth 20000 in
theorem gX7_beechSize_X7_begins : GoodIn wsX7_beechSize (wsV RX7 218 RX7 yX7_begins wsX7_begins) := goodIn_app (goodIn_of _ (by decide +kernel)) ggX7_beechSize_X7_begins
set_option maxRecDepth 20000 in
theorem ggX7_beechSize_X7_beechMark : GoodIn wsX7_beechSize wsX7_beechMark := goodIn_r _ [16, 1, 2, 3, 4, 5, 6, 7, 8, 9, 10, 11, 12, 17, 18, 19, 20, 21, 22, 23, 24, 25, 26, 27, 28, 29, 30, 31, 32, 33, 34, 35, 36, 37, 38] (by decide +kernel) (by decide +kernel)
set_option maxRecDepth 20000 in
theorem gX7_beechSize_X7_beechMark : GoodIn wsX7_beechSize (wsV RX7 221 RX7 yX7_beechMark wsX7_beechMark) := goodIn_app (goodIn_of _ (by decide +kernel)) ggX7_beechSize_X7_beechMark
set_option maxRecDepth 20000 in
theorem ggX7_pineMark_X7_begins : GoodIn wsX7_pineMark wsX7_begins := goodIn_r _ [5, 6, 7, 17, 18, 19, 20, 21, 22, 23, 24, 25, 26, 27, 28, 29, 30, 31, 32, 33, 34, 35, 36, 37, 38] (by decide +kernel) (by decide +kernel)
set_option maxRecDepth 20000 in
theorem gX7_pineMark_X7_begins : GoodIn wsX7_pineMark (wsV RX7 218 RX7 yX7_begins wsX7_begins) := goodIn_app (goodIn_of _ (by decide +kernel)) ggX7_pineMark_X7_begins
set_option maxRecDepth 20000 in
theorem ggX7_pineMark_X7_pineSize : GoodIn wsX7_pineMark wsX7_pineSize := goodIn_r _ [11, 12, 13, 14, 15, 4, 16, 1, 2, 3, 5, 6, 7, 17, 18, 19, 20, 21, 22, 23, 24, 25, 26, 27, 28, 29, 30, 31, 32, 33, 34, 35, 36, 37, 38] (by decide +kernel) (by decide +kernel)
set_option maxRecDepth 20000 in
theorem gX7_pineMark_X7_pineSize : GoodIn wsX7_pineMark (wsV RX7 224 RX7 yX7_pineSize wsX7_pineSize) := goodIn_app (goodIn_of _ (by decide +kernel)) ggX7_pineMark_X7_pineSize
set_option maxRecDepth 20000 in
theorem ggX7_ask_X7_isTree : GoodIn wsX7_ask wsX7_isTree := goodIn_r _ [7, 8, 9, 10, 6, 11, 37, 38, 39, 40, 41, 42, 43, 44, 45, 46, 47, 48, 49, 50, 51, 52, 53, 54, 55, 56, 57, 58] (by decide +kernel) (by decide +kernel)
set_option maxRecDepth 20000 in
theorem gX7_ask_X7_isTree : GoodIn wsX7_ask (wsV RX7 185 RX7 yX7_isTree wsX7_isTree) := goodIn_app (goodIn_of _ (by decide +kernel)) ggX7_ask_X7_isTree
set_option maxRecDepth 20000 in
theorem ggX7_ask_X7_in : GoodIn wsX7_ask wsX7_in := goodIn_r _ [11] (by decide +kernel) (by decide +kernel)
set_option maxRecDepth 20000 in
theorem gX7_ask_X7_in : GoodIn wsX7_ask (va_wsS RX7 53 yX7_in wsX7_in) := goodIn_app (goodIn_of _ (by decide +kernel)) ggX7_ask_X7_in
set_option maxRecDepth 20000 in
theorem ggX7_ask_X7_kindIn : GoodIn wsX7_ask wsX7_kindIn := goodIn_r _ [15, 8, 37, 38, 39, 40, 41, 42, 43, 44, 45, 46, 47, 48, 49, 50, 51, 52, 53, 54, 55, 56, 57, 58] (by decide +kernel) (by decide +kernel)
set_option maxRecDepth 20000 in
theorem gX7_ask_X7_kindIn : GoodIn wsX7_ask (wsV RX7 212 RX7 yX7_kindIn wsX7_kindIn) := goodIn_app (goodIn_of _ (by decide +kernel)) ggX7_ask_X7_kindIn
set_option maxRecDepth 20000 in
theorem ggX7_ask_X7_pineSize : GoodIn wsX7_ask wsX7_pineSize := goodIn_r _ [19, 8, 12, 13, 14, 6, 15, 20, 21, 22, 23, 2, 24, 37, 38, 39, 40, 41, 42, 43, 44, 45, 46, 47, 48, 49, 50, 51, 52, 53, 54, 55, 56, 57, 58] (by decide +kernel) (by decide +kernel)
set_option maxRecDepth 20000 in
theorem gX7_ask_X7_pineSize : GoodIn wsX7_ask (wsV RX7 224 RX7 yX7_pineSize wsX7_pineSize) := goodIn_app (goodIn_of _ (by decide +kernel)) ggX7_ask_X7_pineSize
set_option maxRecDepth 20000 in
theorem ggX7_ask_X7_beechSize : GoodIn wsX7_ask wsX7_beechSize := goodIn_r _ [28, 8, 12, 13, 14, 6, 15, 20, 21, 22, 23, 2, 24, 29, 30, 31, 32, 37, 38, 39, 40, 41, 42, 43, 44, 45, 46, 47, 48, 49, 50, 51, 52, 53, 54, 55, 56, 57, 58] (by decide +kernel) (by decide +kernel)
set_option maxRecDepth 20000 in
theorem gX7_ask_X7_beechSize : GoodIn wsX7_ask (wsV RX7 227 RX7 yX7_beechSize wsX7_beechSize) := goodIn_app (goodIn_of _ (by decide +kernel)) ggX7_ask_X7_beechSize
set_option maxRecDepth 20000 in
theorem ggX7_ask_X7_pineMark : GoodIn wsX7_ask wsX7_pineMark := goodIn_r _ [36, 20, 21, 22, 6, 23, 2, 24, 16, 17, 18, 19, 8, 12, 13, 14, 15, 37, 38, 39, 40, 41, 42, 43, 44, 45, 46, 47, 48, 49, 50, 51, 52, 53, 54, 55, 56, 57, 58] (by decide +kernel) (by decide +kernel)
set_option maxRecDepth 20000 in
theorem gX7_ask_X7_pineMark : GoodIn wsX7_ask (wsV RX7 230 RX7 yX7_pineMark wsX7_pineMark) := goodIn_app (goodIn_of _ (by decide +kernel)) ggX7_ask_X7_pineMark
set_option maxRecDepth 20000 in
theorem ggX7_ask_X7_beechMark : GoodIn wsX7_ask wsX7_beechMark := goodIn_r _ [32, 8, 12, 13, 14, 6, 15, 20, 21, 22, 23, 2, 24, 37, 38, 39, 40, 41, 42, 43, 44, 45, 46, 47, 48, 49, 50, 51, 52, 53, 54, 55, 56, 57, 58] (by decide +kernel) (by decide +kernel)
set_option maxRecDepth 20000 in
theorem gX7_ask_X7_beechMark : GoodIn wsX7_ask (wsV RX7 221 RX7 yX7_beechMark wsX7_beechMark) := goodIn_app (goodIn_of _ (by decide +kernel)) ggX7_ask_X7_beechMark
set_option maxRecDepth 20000 in
theorem ggX7_trace_X7_in : GoodIn wsX7_trace wsX7_in := goodIn_r _ [7] (by decide +kernel) (by decide +kernel)
set_option maxRecDepth 20000 in
theorem gX7_trace_X7_in : GoodIn wsX7_trace (va_wsS RX7 53 yX7_in wsX7_in) := goodIn_app (goodIn_of _ (by decide +kernel)) ggX7_trace_X7_in
set_option maxRecDepth 20000 in
theorem ggX7_count_X7_isMissing : GoodIn wsX7_count wsX7_isMissing := goodIn_r _ [10, 11, 2, 18, 19, 20, 21, 22, 23, 24, 25, 26, 27, 28, 29, 30, 31, 32, 33, 34, 35, 36, 37, 38, 39] (by decide +kernel) (by decide +kernel)
set_option maxRecDepth 20000 in
theorem gX7_count_X7_isMissing : GoodIn wsX7_count (wsV RX7 69 RX7 yX7_isMissing wsX7_isMissing) := goodIn_app (goodIn_of _ (by decide +kernel)) ggX7_count_X7_isMissing
set_option maxRecDepth 20000 in
theorem ggX7_count_X7_legible : GoodIn wsX7_count wsX7_legible := goodIn_r _ [14, 2] (by decide +kernel) (by decide +kernel)
set_option maxRecDepth 20000 in
theorem gX7_count_X7_legible : GoodIn wsX7_count (va_wsS RX7 168 yX7_legible wsX7_legible) := goodIn_app (goodIn_of _ (by decide +kernel)) ggX7_count_X7_legible
set_option maxRecDepth 20000 in
theorem ggX7_count_X7_ones : GoodIn wsX7_count wsX7_ones := goodIn_r _ [17] (by decide +kernel) (by decide +kernel)
set_option maxRecDepth 20000 in
theorem gX7_count_X7_ones : GoodIn wsX7_count (va_wsS RX7 182 yX7_ones wsX7_ones) := goodIn_app (goodIn_of _ (by decide +kernel)) ggX7_count_X7_ones

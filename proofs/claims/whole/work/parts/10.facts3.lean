theorem am_cw_in {l : List Cond} {j k : Nat} {w : Cond} (hj : am_pc[j]? = some l) (hk : l[k]? = some w) (hg : goodWord w = true) : w ∈ am_tb := List.mem_filter.mpr ⟨am_pc_in hj w (List.mem_of_getElem? hk), hg⟩
theorem am_w0 : Cond.code yX0_init cX0_init 2 none ∈ am_tb := am_cw_in (l := tables_1_2) (j := 2) (k := 8) rfl rfl rfl
theorem am_w1 : Cond.code yX0_size cX0_size 1 (some .int) ∈ am_tb := am_cw_in (l := tables_1_3) (j := 3) (k := 126) rfl rfl rfl
theorem am_w2 : Cond.code yX0_keep cX0_keep 3 none ∈ am_tb := am_cw_in (l := tables_1_3) (j := 3) (k := 18) rfl rfl rfl
theorem am_w3 : Cond.code yX0_latestSlot cX0_latestSlot 1 (some .int) ∈ am_tb := am_cw_in (l := tables_1_5) (j := 5) (k := 153) rfl rfl rfl
theorem am_w4 : Cond.code yX0_takeBack cX0_takeBack 3 none ∈ am_tb := am_cw_in (l := tables_1_5) (j := 5) (k := 162) rfl rfl rfl
theorem am_w5 : Cond.code yX0_latest cX0_latest 1 (some .int) ∈ am_tb := am_cw_in (l := tables_1_5) (j := 5) (k := 157) rfl rfl rfl
theorem am_w6 : Cond.code yX1_init cX1_init 1 none ∈ am_tb := am_cw_in (l := tables_1_1) (j := 1) (k := 150) rfl rfl rfl
theorem am_w7 : Cond.code yX1_freedom cX1_freedom 4 (some .int) ∈ am_tb := am_cw_in (l := tables_1_5) (j := 5) (k := 18) rfl rfl rfl
theorem am_w8 : Cond.code yX1_numberArcs cX1_numberArcs 8 none ∈ am_tb := am_cw_in (l := tables_1_5) (j := 5) (k := 24) rfl rfl rfl
theorem am_w9 : Cond.code yX1_add cX1_add 3 none ∈ am_tb := am_cw_in (l := tables_1_5) (j := 5) (k := 40) rfl rfl rfl
theorem am_w10 : Cond.code yX1_rank cX1_rank 5 (some .int) ∈ am_tb := am_cw_in (l := tables_1_5) (j := 5) (k := 44) rfl rfl rfl
theorem am_w11 : Cond.code yX1_swapRows cX1_swapRows 5 none ∈ am_tb := am_cw_in (l := tables_1_5) (j := 5) (k := 55) rfl rfl rfl
theorem am_w12 : Cond.code yX1_rowWith cX1_rowWith 5 (some .int) ∈ am_tb := am_cw_in (l := tables_1_5) (j := 5) (k := 48) rfl rfl rfl
theorem am_w13 : Cond.code yX1_clearBelow cX1_clearBelow 8 none ∈ am_tb := am_cw_in (l := tables_1_5) (j := 5) (k := 59) rfl rfl rfl
theorem am_w14 : Cond.code yX2_init cX2_init 1 none ∈ am_tb := am_cw_in (l := tables_1_1) (j := 1) (k := 176) rfl rfl rfl
theorem am_w15 : Cond.code yX2_grow cX2_grow 4 (some .long) ∈ am_tb := am_cw_in (l := tables_1_4) (j := 4) (k := 218) rfl rfl rfl
theorem am_w16 : Cond.code yX2_cellBehind cX2_cellBehind 2 (some .int) ∈ am_tb := am_cw_in (l := tables_1_4) (j := 4) (k := 230) rfl rfl rfl
theorem am_w17 : Cond.code yX2_merge cX2_merge 7 none ∈ am_tb := am_cw_in (l := tables_1_4) (j := 4) (k := 225) rfl rfl rfl
theorem am_w18 : Cond.code yX2_renumber cX2_renumber 4 (some .int) ∈ am_tb := am_cw_in (l := tables_1_4) (j := 4) (k := 238) rfl rfl rfl
theorem am_w19 : Cond.code yX2_tie cX2_tie 3 none ∈ am_tb := am_cw_in (l := tables_1_5) (j := 5) (k := 3) rfl rfl rfl
theorem am_w20 : Cond.code yX2_determinant cX2_determinant 9 (some .long) ∈ am_tb := am_cw_in (l := tables_1_5) (j := 5) (k := 7) rfl rfl rfl
theorem am_w21 : Cond.code yX3_init cX3_init 1 none ∈ am_tb := am_cw_in (l := tables_1_1) (j := 1) (k := 30) rfl rfl rfl
theorem am_w22 : Cond.code yX3_clear cX3_clear 1 none ∈ am_tb := am_cw_in (l := tables_1_2) (j := 2) (k := 94) rfl rfl rfl
theorem am_w23 : Cond.code yX3_lay cX3_lay 7 none ∈ am_tb := am_cw_in (l := tables_1_2) (j := 2) (k := 98) rfl rfl rfl
theorem am_w24 : Cond.code yX3_number cX3_number 2 none ∈ am_tb := am_cw_in (l := tables_1_2) (j := 2) (k := 105) rfl rfl rfl
theorem am_w25 : Cond.code yX3_rows cX3_rows 1 (some .int) ∈ am_tb := am_cw_in (l := tables_1_3) (j := 3) (k := 58) rfl rfl rfl
theorem am_w26 : Cond.code yX3_columns cX3_columns 1 (some .int) ∈ am_tb := am_cw_in (l := tables_1_3) (j := 3) (k := 138) rfl rfl rfl
theorem am_w27 : Cond.code yX3_cells cX3_cells 1 (some .int) ∈ am_tb := am_cw_in (l := tables_1_2) (j := 2) (k := 218) rfl rfl rfl
theorem am_w28 : Cond.code yX3_edges cX3_edges 1 (some .int) ∈ am_tb := am_cw_in (l := tables_1_3) (j := 3) (k := 142) rfl rfl rfl
theorem am_w29 : Cond.code yX3_hasEdge cX3_hasEdge 2 (some .boolean) ∈ am_tb := am_cw_in (l := tables_1_3) (j := 3) (k := 5) rfl rfl rfl
theorem am_w30 : Cond.code yX3_hasCell cX3_hasCell 2 (some .boolean) ∈ am_tb := am_cw_in (l := tables_1_2) (j := 2) (k := 230) rfl rfl rfl
theorem am_w31 : Cond.code yX3_rowOf cX3_rowOf 2 (some .int) ∈ am_tb := am_cw_in (l := tables_1_3) (j := 3) (k := 34) rfl rfl rfl
theorem am_w32 : Cond.code yX3_columnOf cX3_columnOf 2 (some .int) ∈ am_tb := am_cw_in (l := tables_1_3) (j := 3) (k := 38) rfl rfl rfl
theorem am_w33 : Cond.code yX3_kindOf cX3_kindOf 2 (some .int) ∈ am_tb := am_cw_in (l := tables_1_2) (j := 2) (k := 237) rfl rfl rfl
theorem am_w34 : Cond.code yX3_isCross cX3_isCross 3 (some .boolean) ∈ am_tb := am_cw_in (l := tables_1_3) (j := 3) (k := 89) rfl rfl rfl
theorem am_w35 : Cond.code yX3_cellOf cX3_cellOf 2 (some .int) ∈ am_tb := am_cw_in (l := tables_1_3) (j := 3) (k := 30) rfl rfl rfl
theorem am_w36 : Cond.code yX3_belowOf cX3_belowOf 2 (some .int) ∈ am_tb := am_cw_in (l := tables_1_3) (j := 3) (k := 42) rfl rfl rfl
theorem am_w37 : Cond.code yX3_edgeAt cX3_edgeAt 3 (some .int) ∈ am_tb := am_cw_in (l := tables_1_2) (j := 2) (k := 226) rfl rfl rfl
theorem am_w38 : Cond.code yX3_edgeOnSide cX3_edgeOnSide 3 (some .int) ∈ am_tb := am_cw_in (l := tables_1_3) (j := 3) (k := 80) rfl rfl rfl
theorem am_w39 : Cond.code yX3_cellBeyond cX3_cellBeyond 3 (some .int) ∈ am_tb := am_cw_in (l := tables_1_3) (j := 3) (k := 85) rfl rfl rfl
theorem am_w40 : Cond.code yX3_howMany cX3_howMany 4 (some .int) ∈ am_tb := am_cw_in (l := tables_1_3) (j := 3) (k := 150) rfl rfl rfl
theorem am_w41 : Cond.code yX3_crosses cX3_crosses 1 (some .int) ∈ am_tb := am_cw_in (l := tables_1_3) (j := 3) (k := 146) rfl rfl rfl
theorem am_w42 : Cond.code yX3_change cX3_change 3 none ∈ am_tb := am_cw_in (l := tables_1_3) (j := 3) (k := 1) rfl rfl rfl
theorem am_w43 : Cond.code yX3_isLike cX3_isLike 3 (some .boolean) ∈ am_tb := am_cw_in (l := tables_1_3) (j := 3) (k := 13) rfl rfl rfl
theorem am_w44 : Cond.code yX3_copy cX3_copy 2 none ∈ am_tb := am_cw_in (l := tables_1_3) (j := 3) (k := 22) rfl rfl rfl
theorem am_w45 : Cond.code yX3_paste cX3_paste 6 none ∈ am_tb := am_cw_in (l := tables_1_3) (j := 3) (k := 26) rfl rfl rfl
def am_cw0_l : List (MethodName × ByteArray × Nat × Option FieldType) := [(yX0_init, cX0_init, 2, none), (yX0_size, cX0_size, 1, (some .int)), (yX0_keep, cX0_keep, 3, none), (yX0_latestSlot, cX0_latestSlot, 1, (some .int)), (yX0_takeBack, cX0_takeBack, 3, none), (yX0_latest, cX0_latest, 1, (some .int)), (yX1_init, cX1_init, 1, none), (yX1_freedom, cX1_freedom, 4, (some .int)), (yX1_numberArcs, cX1_numberArcs, 8, none), (yX1_add, cX1_add, 3, none), (yX1_rank, cX1_rank, 5, (some .int)), (yX1_swapRows, cX1_swapRows, 5, none), (yX1_rowWith, cX1_rowWith, 5, (some .int)), (yX1_clearBelow, cX1_clearBelow, 8, none), (yX2_init, cX2_init, 1, none), (yX2_grow, cX2_grow, 4, (some .long)), (yX2_cellBehind, cX2_cellBehind, 2, (some .int)), (yX2_merge, cX2_merge, 7, none), (yX2_renumber, cX2_renumber, 4, (some .int)), (yX2_tie, cX2_tie, 3, none), (yX2_determinant, cX2_determinant, 9, (some .long)), (yX3_init, cX3_init, 1, none), (yX3_clear, cX3_clear, 1, none), (yX3_lay, cX3_lay, 7, none), (yX3_number, cX3_number, 2, none), (yX3_rows, cX3_rows, 1, (some .int)), (yX3_columns, cX3_columns, 1, (some .int)), (yX3_cells, cX3_cells, 1, (some .int)), (yX3_edges, cX3_edges, 1, (some .int)), (yX3_hasEdge, cX3_hasEdge, 2, (some .boolean)), (yX3_hasCell, cX3_hasCell, 2, (some .boolean)), (yX3_rowOf, cX3_rowOf, 2, (some .int)), (yX3_columnOf, cX3_columnOf, 2, (some .int)), (yX3_kindOf, cX3_kindOf, 2, (some .int)), (yX3_isCross, cX3_isCross, 3, (some .boolean)), (yX3_cellOf, cX3_cellOf, 2, (some .int)), (yX3_belowOf, cX3_belowOf, 2, (some .int)), (yX3_edgeAt, cX3_edgeAt, 3, (some .int)), (yX3_edgeOnSide, cX3_edgeOnSide, 3, (some .int)), (yX3_cellBeyond, cX3_cellBeyond, 3, (some .int)), (yX3_howMany, cX3_howMany, 4, (some .int)), (yX3_crosses, cX3_crosses, 1, (some .int)), (yX3_change, cX3_change, 3, none), (yX3_isLike, cX3_isLike, 3, (some .boolean)), (yX3_copy, cX3_copy, 2, none), (yX3_paste, cX3_paste, 6, none)]
theorem am_cw0_ok : ∀ q ∈ am_cw0_l, Cond.code q.1 q.2.1 q.2.2.1 q.2.2.2 ∈ am_tb := List.forall_mem_cons.mpr ⟨am_w0, List.forall_mem_cons.mpr ⟨am_w1, List.forall_mem_cons.mpr ⟨am_w2, List.forall_mem_cons.mpr ⟨am_w3, List.forall_mem_cons.mpr ⟨am_w4, List.forall_mem_cons.mpr ⟨am_w5, List.forall_mem_cons.mpr ⟨am_w6, List.forall_mem_cons.mpr ⟨am_w7, List.forall_mem_cons.mpr ⟨am_w8, List.forall_mem_cons.mpr ⟨am_w9, List.forall_mem_cons.mpr ⟨am_w10, List.forall_mem_cons.mpr ⟨am_w11, List.forall_mem_cons.mpr ⟨am_w12, List.forall_mem_cons.mpr ⟨am_w13, List.forall_mem_cons.mpr ⟨am_w14, List.forall_mem_cons.mpr ⟨am_w15, List.forall_mem_cons.mpr ⟨am_w16, List.forall_mem_cons.mpr ⟨am_w17, List.forall_mem_cons.mpr ⟨am_w18, List.forall_mem_cons.mpr ⟨am_w19, List.forall_mem_cons.mpr ⟨am_w20, List.forall_mem_cons.mpr ⟨am_w21, List.forall_mem_cons.mpr ⟨am_w22, List.forall_mem_cons.mpr ⟨am_w23, List.forall_mem_cons.mpr ⟨am_w24, List.forall_mem_cons.mpr ⟨am_w25, List.forall_mem_cons.mpr ⟨am_w26, List.forall_mem_cons.mpr ⟨am_w27, List.forall_mem_cons.mpr ⟨am_w28, List.forall_mem_cons.mpr ⟨am_w29, List.forall_mem_cons.mpr ⟨am_w30, List.forall_mem_cons.mpr ⟨am_w31, List.forall_mem_cons.mpr ⟨am_w32, List.forall_mem_cons.mpr ⟨am_w33, List.forall_mem_cons.mpr ⟨am_w34, List.forall_mem_cons.mpr ⟨am_w35, List.forall_mem_cons.mpr ⟨am_w36, List.forall_mem_cons.mpr ⟨am_w37, List.forall_mem_cons.mpr ⟨am_w38, List.forall_mem_cons.mpr ⟨am_w39, List.forall_mem_cons.mpr ⟨am_w40, List.forall_mem_cons.mpr ⟨am_w41, List.forall_mem_cons.mpr ⟨am_w42, List.forall_mem_cons.mpr ⟨am_w43, List.forall_mem_cons.mpr ⟨am_w44, List.forall_mem_cons.mpr ⟨am_w45, fun _ h => absurd h List.not_mem_nil⟩⟩⟩⟩⟩⟩⟩⟩⟩⟩⟩⟩⟩⟩⟩⟩⟩⟩⟩⟩⟩⟩⟩⟩⟩⟩⟩⟩⟩⟩⟩⟩⟩⟩⟩⟩⟩⟩⟩⟩⟩⟩⟩⟩⟩⟩
theorem am_w46 : Cond.code yX3_copyTurned cX3_copyTurned 6 none ∈ am_tb := am_cw_in (l := tables_1_5) (j := 5) (k := 113) rfl rfl rfl
theorem am_w47 : Cond.code yX3_copyMirrored cX3_copyMirrored 6 none ∈ am_tb := am_cw_in (l := tables_1_5) (j := 5) (k := 121) rfl rfl rfl
theorem am_w48 : Cond.code yX4_init cX4_init 1 none ∈ am_tb := am_cw_in (l := tables_1_1) (j := 1) (k := 235) rfl rfl rfl
theorem am_w49 : Cond.code yX4_size cX4_size 1 (some .int) ∈ am_tb := am_cw_in (l := tables_1_3) (j := 3) (k := 130) rfl rfl rfl
theorem am_w50 : Cond.code yX4_byteAt cX4_byteAt 2 (some .int) ∈ am_tb := am_cw_in (l := tables_1_5) (j := 5) (k := 218) rfl rfl rfl
theorem am_w51 : Cond.code yX4_tellGrid cX4_tellGrid 2 none ∈ am_tb := am_cw_in (l := tables_1_5) (j := 5) (k := 170) rfl rfl rfl
theorem am_w52 : Cond.code yX4_tellPaint cX4_tellPaint 4 none ∈ am_tb := am_cw_in (l := tables_1_5) (j := 5) (k := 205) rfl rfl rfl
theorem am_w53 : Cond.code yX4_addLine cX4_addLine 6 none ∈ am_tb := am_cw_in (l := tables_1_5) (j := 5) (k := 192) rfl rfl rfl
theorem am_w54 : Cond.code yX4_addPaint cX4_addPaint 8 none ∈ am_tb := am_cw_in (l := tables_1_5) (j := 5) (k := 209) rfl rfl rfl
theorem am_w55 : Cond.code yX4_addText cX4_addText 3 none ∈ am_tb := am_cw_in (l := tables_1_5) (j := 5) (k := 175) rfl rfl rfl
theorem am_w56 : Cond.code yX4_addNumber cX4_addNumber 2 none ∈ am_tb := am_cw_in (l := tables_1_5) (j := 5) (k := 186) rfl rfl rfl
theorem am_w57 : Cond.code yX4_addByte cX4_addByte 2 none ∈ am_tb := am_cw_in (l := tables_1_5) (j := 5) (k := 181) rfl rfl rfl
theorem am_w58 : Cond.code yX5_init cX5_init 1 none ∈ am_tb := am_cw_in (l := tables_1_1) (j := 1) (k := 116) rfl rfl rfl
theorem am_w59 : Cond.code yX5_go cX5_go 4 none ∈ am_tb := am_cw_in (l := tables_1_4) (j := 4) (k := 129) rfl rfl rfl
theorem am_w60 : Cond.code yX5_waysWith cX5_waysWith 4 (some .int) ∈ am_tb := am_cw_in (l := tables_1_4) (j := 4) (k := 189) rfl rfl rfl
theorem am_w61 : Cond.code yX5_term cX5_term 2 (some .long) ∈ am_tb := am_cw_in (l := tables_1_4) (j := 4) (k := 201) rfl rfl rfl
theorem am_w62 : Cond.code yX5_clear cX5_clear 2 none ∈ am_tb := am_cw_in (l := tables_1_4) (j := 4) (k := 135) rfl rfl rfl
theorem am_w63 : Cond.code yX5_openingEnd cX5_openingEnd 2 (some .int) ∈ am_tb := am_cw_in (l := tables_1_4) (j := 4) (k := 148) rfl rfl rfl
theorem am_w64 : Cond.code yX5_closingEnd cX5_closingEnd 2 (some .int) ∈ am_tb := am_cw_in (l := tables_1_4) (j := 4) (k := 151) rfl rfl rfl
theorem am_w65 : Cond.code yX5_joinRim cX5_joinRim 4 (some .int) ∈ am_tb := am_cw_in (l := tables_1_4) (j := 4) (k := 143) rfl rfl rfl
theorem am_w66 : Cond.code yX5_joinOrKeep cX5_joinOrKeep 9 (some .int) ∈ am_tb := am_cw_in (l := tables_1_4) (j := 4) (k := 162) rfl rfl rfl
theorem am_w67 : Cond.code yX5_join cX5_join 5 (some .int) ∈ am_tb := am_cw_in (l := tables_1_4) (j := 4) (k := 155) rfl rfl rfl
theorem am_w68 : Cond.code yX5_part cX5_part 3 none ∈ am_tb := am_cw_in (l := tables_1_4) (j := 4) (k := 177) rfl rfl rfl
theorem am_w69 : Cond.code yX5_settle cX5_settle 11 none ∈ am_tb := am_cw_in (l := tables_1_4) (j := 4) (k := 169) rfl rfl rfl
theorem am_w70 : Cond.code yX5_note cX5_note 3 none ∈ am_tb := am_cw_in (l := tables_1_4) (j := 4) (k := 173) rfl rfl rfl
theorem am_w71 : Cond.code yX5_addTerms cX5_addTerms 3 none ∈ am_tb := am_cw_in (l := tables_1_4) (j := 4) (k := 181) rfl rfl rfl
theorem am_w72 : Cond.code yX5_addPower cX5_addPower 8 none ∈ am_tb := am_cw_in (l := tables_1_4) (j := 4) (k := 185) rfl rfl rfl
theorem am_w73 : Cond.code yX6_init cX6_init 1 none ∈ am_tb := am_cw_in (l := tables_1_1) (j := 1) (k := 191) rfl rfl rfl
theorem am_w74 : Cond.code yX6_size cX6_size 1 (some .int) ∈ am_tb := am_cw_in (l := tables_1_2) (j := 2) (k := 71) rfl rfl rfl
theorem am_w75 : Cond.code yX6_faultNumber cX6_faultNumber 1 (some .int) ∈ am_tb := am_cw_in (l := tables_1_3) (j := 3) (k := 110) rfl rfl rfl
theorem am_w76 : Cond.code yX6_faultPlace cX6_faultPlace 1 (some .int) ∈ am_tb := am_cw_in (l := tables_1_3) (j := 3) (k := 114) rfl rfl rfl
theorem am_w77 : Cond.code yX6_hasRoom cX6_hasRoom 2 (some .boolean) ∈ am_tb := am_cw_in (l := tables_1_2) (j := 2) (k := 63) rfl rfl rfl
theorem am_w78 : Cond.code yX6_add cX6_add 3 none ∈ am_tb := am_cw_in (l := tables_1_2) (j := 2) (k := 67) rfl rfl rfl
theorem am_w79 : Cond.code yX6_cut cX6_cut 2 (some .boolean) ∈ am_tb := am_cw_in (l := tables_1_2) (j := 2) (k := 79) rfl rfl rfl
theorem am_w80 : Cond.code yX6_readInto cX6_readInto 3 (some .boolean) ∈ am_tb := am_cw_in (l := tables_1_2) (j := 2) (k := 90) rfl rfl rfl
theorem am_w81 : Cond.code yX6_byteAt cX6_byteAt 2 (some .int) ∈ am_tb := am_cw_in (l := tables_1_2) (j := 2) (k := 116) rfl rfl rfl
theorem am_w82 : Cond.code yX6_isLetter cX6_isLetter 2 (some .boolean) ∈ am_tb := am_cw_in (l := tables_1_2) (j := 2) (k := 120) rfl rfl rfl
theorem am_w83 : Cond.code yX6_isDigit cX6_isDigit 2 (some .boolean) ∈ am_tb := am_cw_in (l := tables_1_2) (j := 2) (k := 190) rfl rfl rfl
theorem am_w84 : Cond.code yX6_scan cX6_scan 1 none ∈ am_tb := am_cw_in (l := tables_1_2) (j := 2) (k := 112) rfl rfl rfl
theorem am_w85 : Cond.code yX6_scanWord cX6_scanWord 1 none ∈ am_tb := am_cw_in (l := tables_1_2) (j := 2) (k := 124) rfl rfl rfl
theorem am_w86 : Cond.code yX6_scanNumber cX6_scanNumber 1 none ∈ am_tb := am_cw_in (l := tables_1_2) (j := 2) (k := 194) rfl rfl rfl
theorem am_w87 : Cond.code yX6_wordNumber cX6_wordNumber 1 (some .int) ∈ am_tb := am_cw_in (l := tables_1_2) (j := 2) (k := 128) rfl rfl rfl
theorem am_w88 : Cond.code yX6_spells cX6_spells 3 (some .boolean) ∈ am_tb := am_cw_in (l := tables_1_2) (j := 2) (k := 133) rfl rfl rfl
theorem am_w89 : Cond.code yX6_take cX6_take 2 (some .int) ∈ am_tb := am_cw_in (l := tables_1_2) (j := 2) (k := 201) rfl rfl rfl
theorem am_w90 : Cond.code yX6_isSign cX6_isSign 2 (some .boolean) ∈ am_tb := am_cw_in (l := tables_1_2) (j := 2) (k := 214) rfl rfl rfl
theorem am_w91 : Cond.code yX6_expect cX6_expect 3 (some .int) ∈ am_tb := am_cw_in (l := tables_1_2) (j := 2) (k := 205) rfl rfl rfl
def am_cw46_l : List (MethodName × ByteArray × Nat × Option FieldType) := [(yX3_copyTurned, cX3_copyTurned, 6, none), (yX3_copyMirrored, cX3_copyMirrored, 6, none), (yX4_init, cX4_init, 1, none), (yX4_size, cX4_size, 1, (some .int)), (yX4_byteAt, cX4_byteAt, 2, (some .int)), (yX4_tellGrid, cX4_tellGrid, 2, none), (yX4_tellPaint, cX4_tellPaint, 4, none), (yX4_addLine, cX4_addLine, 6, none), (yX4_addPaint, cX4_addPaint, 8, none), (yX4_addText, cX4_addText, 3, none), (yX4_addNumber, cX4_addNumber, 2, none), (yX4_addByte, cX4_addByte, 2, none), (yX5_init, cX5_init, 1, none), (yX5_go, cX5_go, 4, none), (yX5_waysWith, cX5_waysWith, 4, (some .int)), (yX5_term, cX5_term, 2, (some .long)), (yX5_clear, cX5_clear, 2, none), (yX5_openingEnd, cX5_openingEnd, 2, (some .int)), (yX5_closingEnd, cX5_closingEnd, 2, (some .int)), (yX5_joinRim, cX5_joinRim, 4, (some .int)), (yX5_joinOrKeep, cX5_joinOrKeep, 9, (some .int)), (yX5_join, cX5_join, 5, (some .int)), (yX5_part, cX5_part, 3, none), (yX5_settle, cX5_settle, 11, none), (yX5_note, cX5_note, 3, none), (yX5_addTerms, cX5_addTerms, 3, none), (yX5_addPower, cX5_addPower, 8, none), (yX6_init, cX6_init, 1, none), (yX6_size, cX6_size, 1, (some .int)), (yX6_faultNumber, cX6_faultNumber, 1, (some .int)), (yX6_faultPlace, cX6_faultPlace, 1, (some .int)), (yX6_hasRoom, cX6_hasRoom, 2, (some .boolean)), (yX6_add, cX6_add, 3, none), (yX6_cut, cX6_cut, 2, (some .boolean)), (yX6_readInto, cX6_readInto, 3, (some .boolean)), (yX6_byteAt, cX6_byteAt, 2, (some .int)), (yX6_isLetter, cX6_isLetter, 2, (some .boolean)), (yX6_isDigit, cX6_isDigit, 2, (some .boolean)), (yX6_scan, cX6_scan, 1, none), (yX6_scanWord, cX6_scanWord, 1, none), (yX6_scanNumber, cX6_scanNumber, 1, none), (yX6_wordNumber, cX6_wordNumber, 1, (some .int)), (yX6_spells, cX6_spells, 3, (some .boolean)), (yX6_take, cX6_take, 2, (some .int)), (yX6_isSign, cX6_isSign, 2, (some .boolean)), (yX6_expect, cX6_expect, 3, (some .int))]
theorem am_cw46_ok : ∀ q ∈ am_cw46_l, Cond.code q.1 q.2.1 q.2.2.1 q.2.2.2 ∈ am_tb := List.forall_mem_cons.mpr ⟨am_w46, List.forall_mem_cons.mpr ⟨am_w47, List.forall_mem_cons.mpr ⟨am_w48, List.forall_mem_cons.mpr ⟨am_w49, List.forall_mem_cons.mpr ⟨am_w50, List.forall_mem_cons.mpr ⟨am_w51, List.forall_mem_cons.mpr ⟨am_w52, List.forall_mem_cons.mpr ⟨am_w53, List.forall_mem_cons.mpr ⟨am_w54, List.forall_mem_cons.mpr ⟨am_w55, List.forall_mem_cons.mpr ⟨am_w56, List.forall_mem_cons.mpr ⟨am_w57, List.forall_mem_cons.mpr ⟨am_w58, List.forall_mem_cons.mpr ⟨am_w59, List.forall_mem_cons.mpr ⟨am_w60, List.forall_mem_cons.mpr ⟨am_w61, List.forall_mem_cons.mpr ⟨am_w62, List.forall_mem_cons.mpr ⟨am_w63, List.forall_mem_cons.mpr ⟨am_w64, List.forall_mem_cons.mpr ⟨am_w65, List.forall_mem_cons.mpr ⟨am_w66, List.forall_mem_cons.mpr ⟨am_w67, List.forall_mem_cons.mpr ⟨am_w68, List.forall_mem_cons.mpr ⟨am_w69, List.forall_mem_cons.mpr ⟨am_w70, List.forall_mem_cons.mpr ⟨am_w71, List.forall_mem_cons.mpr ⟨am_w72, List.forall_mem_cons.mpr ⟨am_w73, List.forall_mem_cons.mpr ⟨am_w74, List.forall_mem_cons.mpr ⟨am_w75, List.forall_mem_cons.mpr ⟨am_w76, List.forall_mem_cons.mpr ⟨am_w77, List.forall_mem_cons.mpr ⟨am_w78, List.forall_mem_cons.mpr ⟨am_w79, List.forall_mem_cons.mpr ⟨am_w80, List.forall_mem_cons.mpr ⟨am_w81, List.forall_mem_cons.mpr ⟨am_w82, List.forall_mem_cons.mpr ⟨am_w83, List.forall_mem_cons.mpr ⟨am_w84, List.forall_mem_cons.mpr ⟨am_w85, List.forall_mem_cons.mpr ⟨am_w86, List.forall_mem_cons.mpr ⟨am_w87, List.forall_mem_cons.mpr ⟨am_w88, List.forall_mem_cons.mpr ⟨am_w89, List.forall_mem_cons.mpr ⟨am_w90, List.forall_mem_cons.mpr ⟨am_w91, fun _ h => absurd h List.not_mem_nil⟩⟩⟩⟩⟩⟩⟩⟩⟩⟩⟩⟩⟩⟩⟩⟩⟩⟩⟩⟩⟩⟩⟩⟩⟩⟩⟩⟩⟩⟩⟩⟩⟩⟩⟩⟩⟩⟩⟩⟩⟩⟩⟩⟩⟩⟩
theorem am_w92 : Cond.code yX6_takeNumber cX6_takeNumber 4 (some .int) ∈ am_tb := am_cw_in (l := tables_1_2) (j := 2) (k := 209) rfl rfl rfl
theorem am_w93 : Cond.code yX6_takeSide cX6_takeSide 3 (some .int) ∈ am_tb := am_cw_in (l := tables_1_2) (j := 2) (k := 222) rfl rfl rfl
theorem am_w94 : Cond.code yX7_init cX7_init 1 none ∈ am_tb := am_cw_in (l := tables_1_1) (j := 1) (k := 56) rfl rfl rfl
theorem am_w95 : Cond.code yX7_follow cX7_follow 3 none ∈ am_tb := am_cw_in (l := tables_1_3) (j := 3) (k := 62) rfl rfl rfl
theorem am_w96 : Cond.code yX7_followFrom cX7_followFrom 9 none ∈ am_tb := am_cw_in (l := tables_1_3) (j := 3) (k := 71) rfl rfl rfl
theorem am_w97 : Cond.code yX7_note cX7_note 4 none ∈ am_tb := am_cw_in (l := tables_1_3) (j := 3) (k := 76) rfl rfl rfl
theorem am_w98 : Cond.code yX7_pass cX7_pass 8 none ∈ am_tb := am_cw_in (l := tables_1_3) (j := 3) (k := 93) rfl rfl rfl
theorem am_w99 : Cond.code yX7_strands cX7_strands 1 (some .int) ∈ am_tb := am_cw_in (l := tables_1_3) (j := 3) (k := 102) rfl rfl rfl
theorem am_w100 : Cond.code yX7_hasStrand cX7_hasStrand 2 (some .boolean) ∈ am_tb := am_cw_in (l := tables_1_3) (j := 3) (k := 229) rfl rfl rfl
theorem am_w101 : Cond.code yX7_strandAt cX7_strandAt 2 (some .int) ∈ am_tb := am_cw_in (l := tables_1_3) (j := 3) (k := 209) rfl rfl rfl
theorem am_w102 : Cond.code yX7_placeAt cX7_placeAt 2 (some .int) ∈ am_tb := am_cw_in (l := tables_1_3) (j := 3) (k := 217) rfl rfl rfl
theorem am_w103 : Cond.code yX7_paintAt cX7_paintAt 2 (some .int) ∈ am_tb := am_cw_in (l := tables_1_4) (j := 4) (k := 103) rfl rfl rfl
theorem am_w104 : Cond.code yX7_paintIn cX7_paintIn 4 (some .int) ∈ am_tb := am_cw_in (l := tables_1_4) (j := 4) (k := 114) rfl rfl rfl
theorem am_w105 : Cond.code yX7_cornersOn cX7_cornersOn 2 (some .int) ∈ am_tb := am_cw_in (l := tables_1_3) (j := 3) (k := 237) rfl rfl rfl
theorem am_w106 : Cond.code yX7_cornerOn cX7_cornerOn 3 (some .int) ∈ am_tb := am_cw_in (l := tables_1_3) (j := 3) (k := 233) rfl rfl rfl
theorem am_w107 : Cond.code yX7_passesOn cX7_passesOn 2 (some .int) ∈ am_tb := am_cw_in (l := tables_1_4) (j := 4) (k := 47) rfl rfl rfl
theorem am_w108 : Cond.code yX7_edgePassed cX7_edgePassed 3 (some .int) ∈ am_tb := am_cw_in (l := tables_1_4) (j := 4) (k := 55) rfl rfl rfl
theorem am_w109 : Cond.code yX7_isOverAt cX7_isOverAt 3 (some .boolean) ∈ am_tb := am_cw_in (l := tables_1_4) (j := 4) (k := 51) rfl rfl rfl
theorem am_w110 : Cond.code yX7_overStrand cX7_overStrand 2 (some .int) ∈ am_tb := am_cw_in (l := tables_1_3) (j := 3) (k := 164) rfl rfl rfl
theorem am_w111 : Cond.code yX7_underStrand cX7_underStrand 2 (some .int) ∈ am_tb := am_cw_in (l := tables_1_3) (j := 3) (k := 168) rfl rfl rfl
theorem am_w112 : Cond.code yX7_ownerOf cX7_ownerOf 3 (some .int) ∈ am_tb := am_cw_in (l := tables_1_4) (j := 4) (k := 68) rfl rfl rfl
theorem am_w113 : Cond.code yX7_edges cX7_edges 1 (some .int) ∈ am_tb := am_cw_in (l := tables_1_5) (j := 5) (k := 35) rfl rfl rfl
theorem am_w114 : Cond.code yX7_signOf cX7_signOf 5 (some .int) ∈ am_tb := am_cw_in (l := tables_1_4) (j := 4) (k := 22) rfl rfl rfl
theorem am_w115 : Cond.code yX7_signsOfAll cX7_signsOfAll 3 (some .int) ∈ am_tb := am_cw_in (l := tables_1_4) (j := 4) (k := 209) rfl rfl rfl
theorem am_w116 : Cond.code yX7_crossesOver cX7_crossesOver 5 (some .int) ∈ am_tb := am_cw_in (l := tables_1_4) (j := 4) (k := 10) rfl rfl rfl
theorem am_w117 : Cond.code yX7_signsOver cX7_signsOver 5 (some .int) ∈ am_tb := am_cw_in (l := tables_1_4) (j := 4) (k := 30) rfl rfl rfl
theorem am_w118 : Cond.code yX7_goesInTurn cX7_goesInTurn 5 (some .boolean) ∈ am_tb := am_cw_in (l := tables_1_4) (j := 4) (k := 43) rfl rfl rfl
theorem am_w119 : Cond.code yX7_areInTurn cX7_areInTurn 3 (some .boolean) ∈ am_tb := am_cw_in (l := tables_1_4) (j := 4) (k := 72) rfl rfl rfl
theorem am_w120 : Cond.code yX7_isBetween cX7_isBetween 3 (some .boolean) ∈ am_tb := am_cw_in (l := tables_1_4) (j := 4) (k := 76) rfl rfl rfl
theorem am_w121 : Cond.code yX7_cellsOn cX7_cellsOn 4 (some .int) ∈ am_tb := am_cw_in (l := tables_1_4) (j := 4) (k := 84) rfl rfl rfl
theorem am_w122 : Cond.code yX7_turnsRound cX7_turnsRound 9 (some .int) ∈ am_tb := am_cw_in (l := tables_1_4) (j := 4) (k := 93) rfl rfl rfl
theorem am_w123 : Cond.code yX7_pieces cX7_pieces 3 (some .int) ∈ am_tb := am_cw_in (l := tables_1_3) (j := 3) (k := 159) rfl rfl rfl
theorem am_w124 : Cond.code yX7_joinPieces cX7_joinPieces 6 (some .boolean) ∈ am_tb := am_cw_in (l := tables_1_3) (j := 3) (k := 172) rfl rfl rfl
theorem am_w125 : Cond.code yX7_firstOfTwo cX7_firstOfTwo 2 (some .int) ∈ am_tb := am_cw_in (l := tables_1_5) (j := 5) (k := 71) rfl rfl rfl
theorem am_w126 : Cond.code yX7_firstKink cX7_firstKink 2 (some .int) ∈ am_tb := am_cw_in (l := tables_1_5) (j := 5) (k := 79) rfl rfl rfl
theorem am_w127 : Cond.code yX7_isKink cX7_isKink 4 (some .boolean) ∈ am_tb := am_cw_in (l := tables_1_5) (j := 5) (k := 83) rfl rfl rfl
theorem am_w128 : Cond.code yX8_init cX8_init 2 none ∈ am_tb := am_cw_in (l := tables_1_1) (j := 1) (k := 21) rfl rfl rfl
theorem am_w129 : Cond.code yX8_feed cX8_feed 6 (some .int) ∈ am_tb := am_cw_in (l := tables_1_2) (j := 2) (k := 59) rfl rfl rfl
theorem am_w130 : Cond.code yX8_end cX8_end 2 (some .int) ∈ am_tb := am_cw_in (l := tables_1_2) (j := 2) (k := 75) rfl rfl rfl
theorem am_w131 : Cond.code yX8_told cX8_told 2 (some .int) ∈ am_tb := am_cw_in (l := tables_1_2) (j := 2) (k := 83) rfl rfl rfl
theorem am_w132 : Cond.code yX8_fault cX8_fault 2 (some .int) ∈ am_tb := am_cw_in (l := tables_1_3) (j := 3) (k := 106) rfl rfl rfl
theorem am_w133 : Cond.code yX8_count cX8_count 2 (some .int) ∈ am_tb := am_cw_in (l := tables_1_3) (j := 3) (k := 118) rfl rfl rfl
theorem am_w134 : Cond.code yX8_look cX8_look 4 (some .int) ∈ am_tb := am_cw_in (l := tables_1_3) (j := 3) (k := 134) rfl rfl rfl
theorem am_w135 : Cond.code yX8_edge cX8_edge 4 (some .int) ∈ am_tb := am_cw_in (l := tables_1_3) (j := 3) (k := 176) rfl rfl rfl
theorem am_w136 : Cond.code yX8_name cX8_name 5 (some .int) ∈ am_tb := am_cw_in (l := tables_1_3) (j := 3) (k := 182) rfl rfl rfl
theorem am_w137 : Cond.code yX8_edgeOf cX8_edgeOf 5 (some .int) ∈ am_tb := am_cw_in (l := tables_1_3) (j := 3) (k := 191) rfl rfl rfl
def am_cw92_l : List (MethodName × ByteArray × Nat × Option FieldType) := [(yX6_takeNumber, cX6_takeNumber, 4, (some .int)), (yX6_takeSide, cX6_takeSide, 3, (some .int)), (yX7_init, cX7_init, 1, none), (yX7_follow, cX7_follow, 3, none), (yX7_followFrom, cX7_followFrom, 9, none), (yX7_note, cX7_note, 4, none), (yX7_pass, cX7_pass, 8, none), (yX7_strands, cX7_strands, 1, (some .int)), (yX7_hasStrand, cX7_hasStrand, 2, (some .boolean)), (yX7_strandAt, cX7_strandAt, 2, (some .int)), (yX7_placeAt, cX7_placeAt, 2, (some .int)), (yX7_paintAt, cX7_paintAt, 2, (some .int)), (yX7_paintIn, cX7_paintIn, 4, (some .int)), (yX7_cornersOn, cX7_cornersOn, 2, (some .int)), (yX7_cornerOn, cX7_cornerOn, 3, (some .int)), (yX7_passesOn, cX7_passesOn, 2, (some .int)), (yX7_edgePassed, cX7_edgePassed, 3, (some .int)), (yX7_isOverAt, cX7_isOverAt, 3, (some .boolean)), (yX7_overStrand, cX7_overStrand, 2, (some .int)), (yX7_underStrand, cX7_underStrand, 2, (some .int)), (yX7_ownerOf, cX7_ownerOf, 3, (some .int)), (yX7_edges, cX7_edges, 1, (some .int)), (yX7_signOf, cX7_signOf, 5, (some .int)), (yX7_signsOfAll, cX7_signsOfAll, 3, (some .int)), (yX7_crossesOver, cX7_crossesOver, 5, (some .int)), (yX7_signsOver, cX7_signsOver, 5, (some .int)), (yX7_goesInTurn, cX7_goesInTurn, 5, (some .boolean)), (yX7_areInTurn, cX7_areInTurn, 3, (some .boolean)), (yX7_isBetween, cX7_isBetween, 3, (some .boolean)), (yX7_cellsOn, cX7_cellsOn, 4, (some .int)), (yX7_turnsRound, cX7_turnsRound, 9, (some .int)), (yX7_pieces, cX7_pieces, 3, (some .int)), (yX7_joinPieces, cX7_joinPieces, 6, (some .boolean)), (yX7_firstOfTwo, cX7_firstOfTwo, 2, (some .int)), (yX7_firstKink, cX7_firstKink, 2, (some .int)), (yX7_isKink, cX7_isKink, 4, (some .boolean)), (yX8_init, cX8_init, 2, none), (yX8_feed, cX8_feed, 6, (some .int)), (yX8_end, cX8_end, 2, (some .int)), (yX8_told, cX8_told, 2, (some .int)), (yX8_fault, cX8_fault, 2, (some .int)), (yX8_count, cX8_count, 2, (some .int)), (yX8_look, cX8_look, 4, (some .int)), (yX8_edge, cX8_edge, 4, (some .int)), (yX8_name, cX8_name, 5, (some .int)), (yX8_edgeOf, cX8_edgeOf, 5, (some .int))]
theorem am_cw92_ok : ∀ q ∈ am_cw92_l, Cond.code q.1 q.2.1 q.2.2.1 q.2.2.2 ∈ am_tb := List.forall_mem_cons.mpr ⟨am_w92, List.forall_mem_cons.mpr ⟨am_w93, List.forall_mem_cons.mpr ⟨am_w94, List.forall_mem_cons.mpr ⟨am_w95, List.forall_mem_cons.mpr ⟨am_w96, List.forall_mem_cons.mpr ⟨am_w97, List.forall_mem_cons.mpr ⟨am_w98, List.forall_mem_cons.mpr ⟨am_w99, List.forall_mem_cons.mpr ⟨am_w100, List.forall_mem_cons.mpr ⟨am_w101, List.forall_mem_cons.mpr ⟨am_w102, List.forall_mem_cons.mpr ⟨am_w103, List.forall_mem_cons.mpr ⟨am_w104, List.forall_mem_cons.mpr ⟨am_w105, List.forall_mem_cons.mpr ⟨am_w106, List.forall_mem_cons.mpr ⟨am_w107, List.forall_mem_cons.mpr ⟨am_w108, List.forall_mem_cons.mpr ⟨am_w109, List.forall_mem_cons.mpr ⟨am_w110, List.forall_mem_cons.mpr ⟨am_w111, List.forall_mem_cons.mpr ⟨am_w112, List.forall_mem_cons.mpr ⟨am_w113, List.forall_mem_cons.mpr ⟨am_w114, List.forall_mem_cons.mpr ⟨am_w115, List.forall_mem_cons.mpr ⟨am_w116, List.forall_mem_cons.mpr ⟨am_w117, List.forall_mem_cons.mpr ⟨am_w118, List.forall_mem_cons.mpr ⟨am_w119, List.forall_mem_cons.mpr ⟨am_w120, List.forall_mem_cons.mpr ⟨am_w121, List.forall_mem_cons.mpr ⟨am_w122, List.forall_mem_cons.mpr ⟨am_w123, List.forall_mem_cons.mpr ⟨am_w124, List.forall_mem_cons.mpr ⟨am_w125, List.forall_mem_cons.mpr ⟨am_w126, List.forall_mem_cons.mpr ⟨am_w127, List.forall_mem_cons.mpr ⟨am_w128, List.forall_mem_cons.mpr ⟨am_w129, List.forall_mem_cons.mpr ⟨am_w130, List.forall_mem_cons.mpr ⟨am_w131, List.forall_mem_cons.mpr ⟨am_w132, List.forall_mem_cons.mpr ⟨am_w133, List.forall_mem_cons.mpr ⟨am_w134, List.forall_mem_cons.mpr ⟨am_w135, List.forall_mem_cons.mpr ⟨am_w136, List.forall_mem_cons.mpr ⟨am_w137, fun _ h => absurd h List.not_mem_nil⟩⟩⟩⟩⟩⟩⟩⟩⟩⟩⟩⟩⟩⟩⟩⟩⟩⟩⟩⟩⟩⟩⟩⟩⟩⟩⟩⟩⟩⟩⟩⟩⟩⟩⟩⟩⟩⟩⟩⟩⟩⟩⟩⟩⟩⟩
theorem am_w138 : Cond.code yX8_strand cX8_strand 5 (some .int) ∈ am_tb := am_cw_in (l := tables_1_3) (j := 3) (k := 197) rfl rfl rfl
theorem am_w139 : Cond.code yX8_place cX8_place 5 (some .int) ∈ am_tb := am_cw_in (l := tables_1_3) (j := 3) (k := 213) rfl rfl rfl
theorem am_w140 : Cond.code yX8_walk cX8_walk 5 (some .int) ∈ am_tb := am_cw_in (l := tables_1_3) (j := 3) (k := 221) rfl rfl rfl
theorem am_w141 : Cond.code yX8_length cX8_length 4 (some .int) ∈ am_tb := am_cw_in (l := tables_1_4) (j := 4) (k := 1) rfl rfl rfl
theorem am_w142 : Cond.code yX8_meets cX8_meets 6 (some .int) ∈ am_tb := am_cw_in (l := tables_1_4) (j := 4) (k := 6) rfl rfl rfl
theorem am_w143 : Cond.code yX8_over cX8_over 5 (some .int) ∈ am_tb := am_cw_in (l := tables_1_4) (j := 4) (k := 14) rfl rfl rfl
theorem am_w144 : Cond.code yX8_sign cX8_sign 5 (some .int) ∈ am_tb := am_cw_in (l := tables_1_4) (j := 4) (k := 18) rfl rfl rfl
theorem am_w145 : Cond.code yX8_twist cX8_twist 4 (some .int) ∈ am_tb := am_cw_in (l := tables_1_4) (j := 4) (k := 26) rfl rfl rfl
theorem am_w146 : Cond.code yX8_link cX8_link 5 (some .int) ∈ am_tb := am_cw_in (l := tables_1_4) (j := 4) (k := 35) rfl rfl rfl
theorem am_w147 : Cond.code yX8_alternates cX8_alternates 4 (some .int) ∈ am_tb := am_cw_in (l := tables_1_4) (j := 4) (k := 39) rfl rfl rfl
theorem am_w148 : Cond.code yX8_passed cX8_passed 5 (some .int) ∈ am_tb := am_cw_in (l := tables_1_4) (j := 4) (k := 59) rfl rfl rfl
theorem am_w149 : Cond.code yX8_interlaced cX8_interlaced 7 (some .int) ∈ am_tb := am_cw_in (l := tables_1_4) (j := 4) (k := 64) rfl rfl rfl
theorem am_w150 : Cond.code yX8_visits cX8_visits 4 (some .int) ∈ am_tb := am_cw_in (l := tables_1_4) (j := 4) (k := 80) rfl rfl rfl
theorem am_w151 : Cond.code yX8_winds cX8_winds 5 (some .int) ∈ am_tb := am_cw_in (l := tables_1_4) (j := 4) (k := 89) rfl rfl rfl
theorem am_w152 : Cond.code yX8_paint cX8_paint 5 (some .int) ∈ am_tb := am_cw_in (l := tables_1_4) (j := 4) (k := 99) rfl rfl rfl
theorem am_w153 : Cond.code yX8_painted cX8_painted 8 (some .int) ∈ am_tb := am_cw_in (l := tables_1_4) (j := 4) (k := 107) rfl rfl rfl
theorem am_w154 : Cond.code yX8_loops cX8_loops 7 (some .int) ∈ am_tb := am_cw_in (l := tables_1_4) (j := 4) (k := 119) rfl rfl rfl
theorem am_w155 : Cond.code yX8_settings cX8_settings 4 (some .int) ∈ am_tb := am_cw_in (l := tables_1_4) (j := 4) (k := 125) rfl rfl rfl
theorem am_w156 : Cond.code yX8_bracket cX8_bracket 4 (some .long) ∈ am_tb := am_cw_in (l := tables_1_4) (j := 4) (k := 193) rfl rfl rfl
theorem am_w157 : Cond.code yX8_smooth cX8_smooth 7 (some .long) ∈ am_tb := am_cw_in (l := tables_1_4) (j := 4) (k := 205) rfl rfl rfl
theorem am_w158 : Cond.code yX8_trees cX8_trees 3 (some .long) ∈ am_tb := am_cw_in (l := tables_1_4) (j := 4) (k := 213) rfl rfl rfl
theorem am_w159 : Cond.code yX8_colours cX8_colours 4 (some .int) ∈ am_tb := am_cw_in (l := tables_1_5) (j := 5) (k := 11) rfl rfl rfl
theorem am_w160 : Cond.code yX8_needs cX8_needs 4 (some .int) ∈ am_tb := am_cw_in (l := tables_1_5) (j := 5) (k := 63) rfl rfl rfl
theorem am_w161 : Cond.code yX8_oneLine cX8_oneLine 6 (some .int) ∈ am_tb := am_cw_in (l := tables_1_5) (j := 5) (k := 67) rfl rfl rfl
theorem am_w162 : Cond.code yX8_eases cX8_eases 7 (some .int) ∈ am_tb := am_cw_in (l := tables_1_5) (j := 5) (k := 75) rfl rfl rfl
theorem am_w163 : Cond.code yX8_sets cX8_sets 6 (some .int) ∈ am_tb := am_cw_in (l := tables_1_5) (j := 5) (k := 91) rfl rfl rfl
theorem am_w164 : Cond.code yX8_all cX8_all 7 (some .int) ∈ am_tb := am_cw_in (l := tables_1_5) (j := 5) (k := 98) rfl rfl rfl
theorem am_w165 : Cond.code yX8_under cX8_under 4 (some .int) ∈ am_tb := am_cw_in (l := tables_1_5) (j := 5) (k := 102) rfl rfl rfl
theorem am_w166 : Cond.code yX8_quarter cX8_quarter 3 (some .int) ∈ am_tb := am_cw_in (l := tables_1_5) (j := 5) (k := 109) rfl rfl rfl
theorem am_w167 : Cond.code yX8_mirror cX8_mirror 3 (some .int) ∈ am_tb := am_cw_in (l := tables_1_5) (j := 5) (k := 117) rfl rfl rfl
theorem am_w168 : Cond.code yX8_beside cX8_beside 9 (some .int) ∈ am_tb := am_cw_in (l := tables_1_5) (j := 5) (k := 126) rfl rfl rfl
theorem am_w169 : Cond.code yX8_alike cX8_alike 6 (some .int) ∈ am_tb := am_cw_in (l := tables_1_5) (j := 5) (k := 132) rfl rfl rfl
theorem am_w170 : Cond.code yX8_same cX8_same 4 (some .int) ∈ am_tb := am_cw_in (l := tables_1_5) (j := 5) (k := 136) rfl rfl rfl
theorem am_w171 : Cond.code yX8_plain cX8_plain 7 (some .int) ∈ am_tb := am_cw_in (l := tables_1_5) (j := 5) (k := 140) rfl rfl rfl
theorem am_w172 : Cond.code yX8_drops cX8_drops 2 (some .int) ∈ am_tb := am_cw_in (l := tables_1_5) (j := 5) (k := 144) rfl rfl rfl
theorem am_w173 : Cond.code yX8_undo cX8_undo 2 (some .int) ∈ am_tb := am_cw_in (l := tables_1_5) (j := 5) (k := 149) rfl rfl rfl
theorem am_w174 : Cond.code yX8_tell cX8_tell 4 (some .int) ∈ am_tb := am_cw_in (l := tables_1_5) (j := 5) (k := 166) rfl rfl rfl
theorem am_w175 : Cond.code yX8_octet cX8_octet 2 (some .int) ∈ am_tb := am_cw_in (l := tables_1_5) (j := 5) (k := 214) rfl rfl rfl
theorem am_w176 : Cond.code yX8_isSlot cX8_isSlot 1 (some .boolean) ∈ am_tb := am_cw_in (l := tables_1_2) (j := 2) (k := 86) rfl rfl rfl
theorem am_w177 : Cond.code yX8_isBit cX8_isBit 1 (some .boolean) ∈ am_tb := am_cw_in (l := tables_1_3) (j := 3) (k := 185) rfl rfl rfl
theorem am_w178 : Cond.code yX8_isKind cX8_isKind 1 (some .boolean) ∈ am_tb := am_cw_in (l := tables_1_5) (j := 5) (k := 94) rfl rfl rfl
theorem am_w179 : Cond.code yX8_isSmallPrime cX8_isSmallPrime 1 (some .boolean) ∈ am_tb := am_cw_in (l := tables_1_5) (j := 5) (k := 14) rfl rfl rfl
theorem am_w180 : Cond.code yX8_hasTerm cX8_hasTerm 2 (some .boolean) ∈ am_tb := am_cw_in (l := tables_1_4) (j := 4) (k := 196) rfl rfl rfl
theorem am_w181 : Cond.code yX8_turnedOver cX8_turnedOver 1 (some .int) ∈ am_tb := am_cw_in (l := tables_1_5) (j := 5) (k := 105) rfl rfl rfl
theorem am_w182 : Cond.code yX8_at cX8_at 2 (some .int) ∈ am_tb := am_cw_in (l := tables_1_2) (j := 2) (k := 233) rfl rfl rfl
theorem am_w183 : Cond.code yX8_put cX8_put 3 none ∈ am_tb := am_cw_in (l := tables_1_2) (j := 2) (k := 108) rfl rfl rfl
def am_cw138_l : List (MethodName × ByteArray × Nat × Option FieldType) := [(yX8_strand, cX8_strand, 5, (some .int)), (yX8_place, cX8_place, 5, (some .int)), (yX8_walk, cX8_walk, 5, (some .int)), (yX8_length, cX8_length, 4, (some .int)), (yX8_meets, cX8_meets, 6, (some .int)), (yX8_over, cX8_over, 5, (some .int)), (yX8_sign, cX8_sign, 5, (some .int)), (yX8_twist, cX8_twist, 4, (some .int)), (yX8_link, cX8_link, 5, (some .int)), (yX8_alternates, cX8_alternates, 4, (some .int)), (yX8_passed, cX8_passed, 5, (some .int)), (yX8_interlaced, cX8_interlaced, 7, (some .int)), (yX8_visits, cX8_visits, 4, (some .int)), (yX8_winds, cX8_winds, 5, (some .int)), (yX8_paint, cX8_paint, 5, (some .int)), (yX8_painted, cX8_painted, 8, (some .int)), (yX8_loops, cX8_loops, 7, (some .int)), (yX8_settings, cX8_settings, 4, (some .int)), (yX8_bracket, cX8_bracket, 4, (some .long)), (yX8_smooth, cX8_smooth, 7, (some .long)), (yX8_trees, cX8_trees, 3, (some .long)), (yX8_colours, cX8_colours, 4, (some .int)), (yX8_needs, cX8_needs, 4, (some .int)), (yX8_oneLine, cX8_oneLine, 6, (some .int)), (yX8_eases, cX8_eases, 7, (some .int)), (yX8_sets, cX8_sets, 6, (some .int)), (yX8_all, cX8_all, 7, (some .int)), (yX8_under, cX8_under, 4, (some .int)), (yX8_quarter, cX8_quarter, 3, (some .int)), (yX8_mirror, cX8_mirror, 3, (some .int)), (yX8_beside, cX8_beside, 9, (some .int)), (yX8_alike, cX8_alike, 6, (some .int)), (yX8_same, cX8_same, 4, (some .int)), (yX8_plain, cX8_plain, 7, (some .int)), (yX8_drops, cX8_drops, 2, (some .int)), (yX8_undo, cX8_undo, 2, (some .int)), (yX8_tell, cX8_tell, 4, (some .int)), (yX8_octet, cX8_octet, 2, (some .int)), (yX8_isSlot, cX8_isSlot, 1, (some .boolean)), (yX8_isBit, cX8_isBit, 1, (some .boolean)), (yX8_isKind, cX8_isKind, 1, (some .boolean)), (yX8_isSmallPrime, cX8_isSmallPrime, 1, (some .boolean)), (yX8_hasTerm, cX8_hasTerm, 2, (some .boolean)), (yX8_turnedOver, cX8_turnedOver, 1, (some .int)), (yX8_at, cX8_at, 2, (some .int)), (yX8_put, cX8_put, 3, none)]
theorem am_cw138_ok : ∀ q ∈ am_cw138_l, Cond.code q.1 q.2.1 q.2.2.1 q.2.2.2 ∈ am_tb := List.forall_mem_cons.mpr ⟨am_w138, List.forall_mem_cons.mpr ⟨am_w139, List.forall_mem_cons.mpr ⟨am_w140, List.forall_mem_cons.mpr ⟨am_w141, List.forall_mem_cons.mpr ⟨am_w142, List.forall_mem_cons.mpr ⟨am_w143, List.forall_mem_cons.mpr ⟨am_w144, List.forall_mem_cons.mpr ⟨am_w145, List.forall_mem_cons.mpr ⟨am_w146, List.forall_mem_cons.mpr ⟨am_w147, List.forall_mem_cons.mpr ⟨am_w148, List.forall_mem_cons.mpr ⟨am_w149, List.forall_mem_cons.mpr ⟨am_w150, List.forall_mem_cons.mpr ⟨am_w151, List.forall_mem_cons.mpr ⟨am_w152, List.forall_mem_cons.mpr ⟨am_w153, List.forall_mem_cons.mpr ⟨am_w154, List.forall_mem_cons.mpr ⟨am_w155, List.forall_mem_cons.mpr ⟨am_w156, List.forall_mem_cons.mpr ⟨am_w157, List.forall_mem_cons.mpr ⟨am_w158, List.forall_mem_cons.mpr ⟨am_w159, List.forall_mem_cons.mpr ⟨am_w160, List.forall_mem_cons.mpr ⟨am_w161, List.forall_mem_cons.mpr ⟨am_w162, List.forall_mem_cons.mpr ⟨am_w163, List.forall_mem_cons.mpr ⟨am_w164, List.forall_mem_cons.mpr ⟨am_w165, List.forall_mem_cons.mpr ⟨am_w166, List.forall_mem_cons.mpr ⟨am_w167, List.forall_mem_cons.mpr ⟨am_w168, List.forall_mem_cons.mpr ⟨am_w169, List.forall_mem_cons.mpr ⟨am_w170, List.forall_mem_cons.mpr ⟨am_w171, List.forall_mem_cons.mpr ⟨am_w172, List.forall_mem_cons.mpr ⟨am_w173, List.forall_mem_cons.mpr ⟨am_w174, List.forall_mem_cons.mpr ⟨am_w175, List.forall_mem_cons.mpr ⟨am_w176, List.forall_mem_cons.mpr ⟨am_w177, List.forall_mem_cons.mpr ⟨am_w178, List.forall_mem_cons.mpr ⟨am_w179, List.forall_mem_cons.mpr ⟨am_w180, List.forall_mem_cons.mpr ⟨am_w181, List.forall_mem_cons.mpr ⟨am_w182, List.forall_mem_cons.mpr ⟨am_w183, fun _ h => absurd h List.not_mem_nil⟩⟩⟩⟩⟩⟩⟩⟩⟩⟩⟩⟩⟩⟩⟩⟩⟩⟩⟩⟩⟩⟩⟩⟩⟩⟩⟩⟩⟩⟩⟩⟩⟩⟩⟩⟩⟩⟩⟩⟩⟩⟩⟩⟩⟩⟩
theorem am_w184 : Cond.code yX8_gridIn cX8_gridIn 2 (some (.object "PegStrings$Grid")) ∈ am_tb := am_cw_in (l := tables_1_3) (j := 3) (k := 54) rfl rfl rfl
theorem am_w185 : Cond.code yX8_hasCell cX8_hasCell 4 (some .boolean) ∈ am_tb := am_cw_in (l := tables_1_3) (j := 3) (k := 205) rfl rfl rfl
theorem am_w186 : Cond.code yX8_traceOf cX8_traceOf 2 (some (.object "PegStrings$Trace")) ∈ am_tb := am_cw_in (l := tables_1_3) (j := 3) (k := 155) rfl rfl rfl
theorem am_w187 : Cond.code yX8_traceOfCorner cX8_traceOfCorner 4 (some (.object "PegStrings$Trace")) ∈ am_tb := am_cw_in (l := tables_1_3) (j := 3) (k := 201) rfl rfl rfl
theorem am_w188 : Cond.code yX8_traceOfStrand cX8_traceOfStrand 4 (some (.object "PegStrings$Trace")) ∈ am_tb := am_cw_in (l := tables_1_3) (j := 3) (k := 225) rfl rfl rfl
theorem am_w189 : Cond.code yX8_strandsOf cX8_strandsOf 3 (some .int) ∈ am_tb := am_cw_in (l := tables_1_3) (j := 3) (k := 50) rfl rfl rfl
theorem am_w190 : Cond.code yX8_slotsInUse cX8_slotsInUse 3 (some .int) ∈ am_tb := am_cw_in (l := tables_1_3) (j := 3) (k := 122) rfl rfl rfl
theorem am_w191 : Cond.code yX8_become cX8_become 2 none ∈ am_tb := am_cw_in (l := tables_1_3) (j := 3) (k := 9) rfl rfl rfl
theorem am_w192 : Cond.code yX9_in cX9_in 6 (some .boolean) ∈ am_tb := am_cw_in (l := tables_1_6) (j := 6) (k := 162) rfl rfl rfl
theorem am_w193 : Cond.code yX9_init cX9_init 1 none ∈ am_tb := am_cw_in (l := tables_1_5) (j := 5) (k := 223) rfl rfl rfl
theorem am_w194 : Cond.code yX9_isSlot cX9_isSlot 1 (some .boolean) ∈ am_tb := am_cw_in (l := tables_1_6) (j := 6) (k := 158) rfl rfl rfl
theorem am_w195 : Cond.code yX9_isGrid cX9_isGrid 2 (some .boolean) ∈ am_tb := am_cw_in (l := tables_1_6) (j := 6) (k := 166) rfl rfl rfl
theorem am_w196 : Cond.code yX9_remembers cX9_remembers 2 none ∈ am_tb := am_cw_in (l := tables_1_6) (j := 6) (k := 170) rfl rfl rfl
theorem am_w197 : Cond.code yX9_keeps cX9_keeps 3 (some .int) ∈ am_tb := am_cw_in (l := tables_1_6) (j := 6) (k := 174) rfl rfl rfl
theorem am_w198 : Cond.code yX9_undo cX9_undo 2 (some .int) ∈ am_tb := am_cw_in (l := tables_1_6) (j := 6) (k := 151) rfl rfl rfl
theorem am_w199 : Cond.code yX9_drops cX9_drops 3 (some .int) ∈ am_tb := am_cw_in (l := tables_1_6) (j := 6) (k := 155) rfl rfl rfl
theorem am_w200 : Cond.code yX9_shapes cX9_shapes 6 none ∈ am_tb := am_cw_in (l := tables_1_6) (j := 6) (k := 226) rfl rfl rfl
theorem am_w201 : Cond.code yX9_lays cX9_lays 3 none ∈ am_tb := am_cw_in (l := tables_1_7) (j := 7) (k := 44) rfl rfl rfl
theorem am_w202 : Cond.code yX9_puts cX9_puts 6 (some .int) ∈ am_tb := am_cw_in (l := tables_1_7) (j := 7) (k := 23) rfl rfl rfl
theorem am_w203 : Cond.code yX9_cells cX9_cells 1 (some .int) ∈ am_tb := am_cw_in (l := tables_1_7) (j := 7) (k := 1) rfl rfl rfl
theorem am_w204 : Cond.code yX9_isCross cX9_isCross 1 (some .boolean) ∈ am_tb := am_cw_in (l := tables_1_7) (j := 7) (k := 51) rfl rfl rfl
theorem am_w205 : Cond.code yX9_many cX9_many 4 (some .int) ∈ am_tb := am_cw_in (l := tables_1_7) (j := 7) (k := 63) rfl rfl rfl
theorem am_w206 : Cond.code yX9_crosses cX9_crosses 1 (some .int) ∈ am_tb := am_cw_in (l := tables_1_7) (j := 7) (k := 59) rfl rfl rfl
theorem am_w207 : Cond.code yX9_behind cX9_behind 2 (some .int) ∈ am_tb := am_cw_in (l := tables_1_7) (j := 7) (k := 19) rfl rfl rfl
theorem am_w208 : Cond.code yX9_edgeOfSide cX9_edgeOfSide 3 (some .int) ∈ am_tb := am_cw_in (l := tables_1_7) (j := 7) (k := 15) rfl rfl rfl
theorem am_w209 : Cond.code yX9_goesOn cX9_goesOn 10 none ∈ am_tb := am_cw_in (l := tables_1_7) (j := 7) (k := 11) rfl rfl rfl
theorem am_w210 : Cond.code yX9_goes cX9_goes 6 none ∈ am_tb := am_cw_in (l := tables_1_7) (j := 7) (k := 7) rfl rfl rfl
theorem am_w211 : Cond.code yX9_lengthOf cX9_lengthOf 2 (some .int) ∈ am_tb := am_cw_in (l := tables_1_7) (j := 7) (k := 108) rfl rfl rfl
theorem am_w212 : Cond.code yX9_laysPassings cX9_laysPassings 5 none ∈ am_tb := am_cw_in (l := tables_1_7) (j := 7) (k := 48) rfl rfl rfl
theorem am_w213 : Cond.code yX9_passes cX9_passes 11 (some .int) ∈ am_tb := am_cw_in (l := tables_1_7) (j := 7) (k := 55) rfl rfl rfl
theorem am_w214 : Cond.code yX9_signOf cX9_signOf 2 (some .int) ∈ am_tb := am_cw_in (l := tables_1_7) (j := 7) (k := 136) rfl rfl rfl
theorem am_w215 : Cond.code yX9_piecesOf cX9_piecesOf 7 (some .int) ∈ am_tb := am_cw_in (l := tables_1_7) (j := 7) (k := 67) rfl rfl rfl
theorem am_w216 : Cond.code yX9_isLaid cX9_isLaid 2 (some .boolean) ∈ am_tb := am_cw_in (l := tables_1_7) (j := 7) (k := 40) rfl rfl rfl
theorem am_w217 : Cond.code yX9_isStrand cX9_isStrand 3 (some .boolean) ∈ am_tb := am_cw_in (l := tables_1_7) (j := 7) (k := 104) rfl rfl rfl
theorem am_w218 : Cond.code yX9_isCorner cX9_isCorner 4 (some .boolean) ∈ am_tb := am_cw_in (l := tables_1_7) (j := 7) (k := 87) rfl rfl rfl
theorem am_w219 : Cond.code yX9_isEdge cX9_isEdge 3 (some .boolean) ∈ am_tb := am_cw_in (l := tables_1_7) (j := 7) (k := 75) rfl rfl rfl
theorem am_w220 : Cond.code yX9_feed cX9_feed 8 (some .int) ∈ am_tb := am_cw_in (l := tables_1_6) (j := 6) (k := 178) rfl rfl rfl
theorem am_w221 : Cond.code yX9_end cX9_end 2 (some .int) ∈ am_tb := am_cw_in (l := tables_1_6) (j := 6) (k := 182) rfl rfl rfl
theorem am_w222 : Cond.code yX9_isAt cX9_isAt 3 (some .boolean) ∈ am_tb := am_cw_in (l := tables_1_6) (j := 6) (k := 194) rfl rfl rfl
theorem am_w223 : Cond.code yX9_next cX9_next 1 none ∈ am_tb := am_cw_in (l := tables_1_6) (j := 6) (k := 190) rfl rfl rfl
theorem am_w224 : Cond.code yX9_faults cX9_faults 2 none ∈ am_tb := am_cw_in (l := tables_1_6) (j := 6) (k := 210) rfl rfl rfl
theorem am_w225 : Cond.code yX9_passes_ cX9_passes_ 1 none ∈ am_tb := am_cw_in (l := tables_1_6) (j := 6) (k := 214) rfl rfl rfl
theorem am_w226 : Cond.code yX9_isWord cX9_isWord 4 (some .boolean) ∈ am_tb := am_cw_in (l := tables_1_6) (j := 6) (k := 200) rfl rfl rfl
theorem am_w227 : Cond.code yX9_must cX9_must 2 none ∈ am_tb := am_cw_in (l := tables_1_6) (j := 6) (k := 206) rfl rfl rfl
theorem am_w228 : Cond.code yX9_isSign cX9_isSign 2 (some .boolean) ∈ am_tb := am_cw_in (l := tables_1_6) (j := 6) (k := 222) rfl rfl rfl
theorem am_w229 : Cond.code yX9_number cX9_number 4 (some .int) ∈ am_tb := am_cw_in (l := tables_1_6) (j := 6) (k := 218) rfl rfl rfl
def am_cw184_l : List (MethodName × ByteArray × Nat × Option FieldType) := [(yX8_gridIn, cX8_gridIn, 2, (some (.object "PegStrings$Grid"))), (yX8_hasCell, cX8_hasCell, 4, (some .boolean)), (yX8_traceOf, cX8_traceOf, 2, (some (.object "PegStrings$Trace"))), (yX8_traceOfCorner, cX8_traceOfCorner, 4, (some (.object "PegStrings$Trace"))), (yX8_traceOfStrand, cX8_traceOfStrand, 4, (some (.object "PegStrings$Trace"))), (yX8_strandsOf, cX8_strandsOf, 3, (some .int)), (yX8_slotsInUse, cX8_slotsInUse, 3, (some .int)), (yX8_become, cX8_become, 2, none), (yX9_in, cX9_in, 6, (some .boolean)), (yX9_init, cX9_init, 1, none), (yX9_isSlot, cX9_isSlot, 1, (some .boolean)), (yX9_isGrid, cX9_isGrid, 2, (some .boolean)), (yX9_remembers, cX9_remembers, 2, none), (yX9_keeps, cX9_keeps, 3, (some .int)), (yX9_undo, cX9_undo, 2, (some .int)), (yX9_drops, cX9_drops, 3, (some .int)), (yX9_shapes, cX9_shapes, 6, none), (yX9_lays, cX9_lays, 3, none), (yX9_puts, cX9_puts, 6, (some .int)), (yX9_cells, cX9_cells, 1, (some .int)), (yX9_isCross, cX9_isCross, 1, (some .boolean)), (yX9_many, cX9_many, 4, (some .int)), (yX9_crosses, cX9_crosses, 1, (some .int)), (yX9_behind, cX9_behind, 2, (some .int)), (yX9_edgeOfSide, cX9_edgeOfSide, 3, (some .int)), (yX9_goesOn, cX9_goesOn, 10, none), (yX9_goes, cX9_goes, 6, none), (yX9_lengthOf, cX9_lengthOf, 2, (some .int)), (yX9_laysPassings, cX9_laysPassings, 5, none), (yX9_passes, cX9_passes, 11, (some .int)), (yX9_signOf, cX9_signOf, 2, (some .int)), (yX9_piecesOf, cX9_piecesOf, 7, (some .int)), (yX9_isLaid, cX9_isLaid, 2, (some .boolean)), (yX9_isStrand, cX9_isStrand, 3, (some .boolean)), (yX9_isCorner, cX9_isCorner, 4, (some .boolean)), (yX9_isEdge, cX9_isEdge, 3, (some .boolean)), (yX9_feed, cX9_feed, 8, (some .int)), (yX9_end, cX9_end, 2, (some .int)), (yX9_isAt, cX9_isAt, 3, (some .boolean)), (yX9_next, cX9_next, 1, none), (yX9_faults, cX9_faults, 2, none), (yX9_passes_, cX9_passes_, 1, none), (yX9_isWord, cX9_isWord, 4, (some .boolean)), (yX9_must, cX9_must, 2, none), (yX9_isSign, cX9_isSign, 2, (some .boolean)), (yX9_number, cX9_number, 4, (some .int))]
theorem am_cw184_ok : ∀ q ∈ am_cw184_l, Cond.code q.1 q.2.1 q.2.2.1 q.2.2.2 ∈ am_tb := List.forall_mem_cons.mpr ⟨am_w184, List.forall_mem_cons.mpr ⟨am_w185, List.forall_mem_cons.mpr ⟨am_w186, List.forall_mem_cons.mpr ⟨am_w187, List.forall_mem_cons.mpr ⟨am_w188, List.forall_mem_cons.mpr ⟨am_w189, List.forall_mem_cons.mpr ⟨am_w190, List.forall_mem_cons.mpr ⟨am_w191, List.forall_mem_cons.mpr ⟨am_w192, List.forall_mem_cons.mpr ⟨am_w193, List.forall_mem_cons.mpr ⟨am_w194, List.forall_mem_cons.mpr ⟨am_w195, List.forall_mem_cons.mpr ⟨am_w196, List.forall_mem_cons.mpr ⟨am_w197, List.forall_mem_cons.mpr ⟨am_w198, List.forall_mem_cons.mpr ⟨am_w199, List.forall_mem_cons.mpr ⟨am_w200, List.forall_mem_cons.mpr ⟨am_w201, List.forall_mem_cons.mpr ⟨am_w202, List.forall_mem_cons.mpr ⟨am_w203, List.forall_mem_cons.mpr ⟨am_w204, List.forall_mem_cons.mpr ⟨am_w205, List.forall_mem_cons.mpr ⟨am_w206, List.forall_mem_cons.mpr ⟨am_w207, List.forall_mem_cons.mpr ⟨am_w208, List.forall_mem_cons.mpr ⟨am_w209, List.forall_mem_cons.mpr ⟨am_w210, List.forall_mem_cons.mpr ⟨am_w211, List.forall_mem_cons.mpr ⟨am_w212, List.forall_mem_cons.mpr ⟨am_w213, List.forall_mem_cons.mpr ⟨am_w214, List.forall_mem_cons.mpr ⟨am_w215, List.forall_mem_cons.mpr ⟨am_w216, List.forall_mem_cons.mpr ⟨am_w217, List.forall_mem_cons.mpr ⟨am_w218, List.forall_mem_cons.mpr ⟨am_w219, List.forall_mem_cons.mpr ⟨am_w220, List.forall_mem_cons.mpr ⟨am_w221, List.forall_mem_cons.mpr ⟨am_w222, List.forall_mem_cons.mpr ⟨am_w223, List.forall_mem_cons.mpr ⟨am_w224, List.forall_mem_cons.mpr ⟨am_w225, List.forall_mem_cons.mpr ⟨am_w226, List.forall_mem_cons.mpr ⟨am_w227, List.forall_mem_cons.mpr ⟨am_w228, List.forall_mem_cons.mpr ⟨am_w229, fun _ h => absurd h List.not_mem_nil⟩⟩⟩⟩⟩⟩⟩⟩⟩⟩⟩⟩⟩⟩⟩⟩⟩⟩⟩⟩⟩⟩⟩⟩⟩⟩⟩⟩⟩⟩⟩⟩⟩⟩⟩⟩⟩⟩⟩⟩⟩⟩⟩⟩⟩⟩
theorem am_w230 : Cond.code yX9_readsEdge cX9_readsEdge 5 none ∈ am_tb := am_cw_in (l := tables_1_6) (j := 6) (k := 237) rfl rfl rfl
theorem am_w231 : Cond.code yX9_readsLine cX9_readsLine 2 none ∈ am_tb := am_cw_in (l := tables_1_6) (j := 6) (k := 230) rfl rfl rfl
theorem am_w232 : Cond.code yX9_told cX9_told 5 (some .int) ∈ am_tb := am_cw_in (l := tables_1_6) (j := 6) (k := 186) rfl rfl rfl
theorem am_w233 : Cond.code yX9_fault cX9_fault 2 (some .int) ∈ am_tb := am_cw_in (l := tables_1_7) (j := 7) (k := 27) rfl rfl rfl
theorem am_w234 : Cond.code yX9_count cX9_count 4 (some .int) ∈ am_tb := am_cw_in (l := tables_1_7) (j := 7) (k := 31) rfl rfl rfl
theorem am_w235 : Cond.code yX9_look cX9_look 3 (some .int) ∈ am_tb := am_cw_in (l := tables_1_7) (j := 7) (k := 35) rfl rfl rfl
theorem am_w236 : Cond.code yX9_edge cX9_edge 3 (some .int) ∈ am_tb := am_cw_in (l := tables_1_7) (j := 7) (k := 71) rfl rfl rfl
theorem am_w237 : Cond.code yX9_name cX9_name 4 (some .int) ∈ am_tb := am_cw_in (l := tables_1_7) (j := 7) (k := 79) rfl rfl rfl
theorem am_w238 : Cond.code yX9_edgeOf cX9_edgeOf 4 (some .int) ∈ am_tb := am_cw_in (l := tables_1_7) (j := 7) (k := 83) rfl rfl rfl
theorem am_w239 : Cond.code yX9_strand cX9_strand 4 (some .int) ∈ am_tb := am_cw_in (l := tables_1_7) (j := 7) (k := 92) rfl rfl rfl
theorem am_w240 : Cond.code yX9_place cX9_place 4 (some .int) ∈ am_tb := am_cw_in (l := tables_1_7) (j := 7) (k := 96) rfl rfl rfl
theorem am_w241 : Cond.code yX9_walk cX9_walk 4 (some .int) ∈ am_tb := am_cw_in (l := tables_1_7) (j := 7) (k := 100) rfl rfl rfl
theorem am_w242 : Cond.code yX9_length cX9_length 3 (some .int) ∈ am_tb := am_cw_in (l := tables_1_7) (j := 7) (k := 112) rfl rfl rfl
theorem am_w243 : Cond.code yX9_areStrands cX9_areStrands 4 (some .boolean) ∈ am_tb := am_cw_in (l := tables_1_7) (j := 7) (k := 120) rfl rfl rfl
theorem am_w244 : Cond.code yX9_isOf cX9_isOf 4 (some .boolean) ∈ am_tb := am_cw_in (l := tables_1_7) (j := 7) (k := 124) rfl rfl rfl
theorem am_w245 : Cond.code yX9_meets cX9_meets 6 (some .int) ∈ am_tb := am_cw_in (l := tables_1_7) (j := 7) (k := 116) rfl rfl rfl
theorem am_w246 : Cond.code yX9_over cX9_over 6 (some .int) ∈ am_tb := am_cw_in (l := tables_1_7) (j := 7) (k := 128) rfl rfl rfl
theorem am_w247 : Cond.code yX9_sign cX9_sign 3 (some .int) ∈ am_tb := am_cw_in (l := tables_1_7) (j := 7) (k := 132) rfl rfl rfl
theorem am_w248 : Cond.code yX9_signsOf cX9_signsOf 5 (some .int) ∈ am_tb := am_cw_in (l := tables_1_7) (j := 7) (k := 144) rfl rfl rfl
theorem am_w249 : Cond.code yX9_twist cX9_twist 3 (some .int) ∈ am_tb := am_cw_in (l := tables_1_7) (j := 7) (k := 140) rfl rfl rfl
theorem am_w250 : Cond.code yX9_link cX9_link 4 (some .int) ∈ am_tb := am_cw_in (l := tables_1_7) (j := 7) (k := 148) rfl rfl rfl
theorem am_w251 : Cond.code yX9_passings cX9_passings 2 (some .int) ∈ am_tb := am_cw_in (l := tables_1_7) (j := 7) (k := 156) rfl rfl rfl
theorem am_w252 : Cond.code yX9_alternates cX9_alternates 5 (some .int) ∈ am_tb := am_cw_in (l := tables_1_7) (j := 7) (k := 152) rfl rfl rfl
theorem am_w253 : Cond.code yX9_passed cX9_passed 4 (some .int) ∈ am_tb := am_cw_in (l := tables_1_7) (j := 7) (k := 160) rfl rfl rfl
theorem am_w254 : Cond.code yX9_isOwn cX9_isOwn 2 (some .boolean) ∈ am_tb := am_cw_in (l := tables_1_7) (j := 7) (k := 168) rfl rfl rfl
theorem am_w255 : Cond.code yX9_firstPass cX9_firstPass 2 (some .int) ∈ am_tb := am_cw_in (l := tables_1_7) (j := 7) (k := 172) rfl rfl rfl
theorem am_w256 : Cond.code yX9_lastPass cX9_lastPass 2 (some .int) ∈ am_tb := am_cw_in (l := tables_1_7) (j := 7) (k := 176) rfl rfl rfl
theorem am_w257 : Cond.code yX9_interlaced cX9_interlaced 6 (some .int) ∈ am_tb := am_cw_in (l := tables_1_7) (j := 7) (k := 164) rfl rfl rfl
theorem am_w258 : Cond.code yX9_visits cX9_visits 5 (some .int) ∈ am_tb := am_cw_in (l := tables_1_7) (j := 7) (k := 181) rfl rfl rfl
theorem am_w259 : Cond.code yX9_sideX cX9_sideX 3 (some .int) ∈ am_tb := am_cw_in (l := tables_1_7) (j := 7) (k := 193) rfl rfl rfl
theorem am_w260 : Cond.code yX9_sideY cX9_sideY 3 (some .int) ∈ am_tb := am_cw_in (l := tables_1_7) (j := 7) (k := 189) rfl rfl rfl
theorem am_w261 : Cond.code yX9_winds cX9_winds 16 (some .int) ∈ am_tb := am_cw_in (l := tables_1_7) (j := 7) (k := 185) rfl rfl rfl
theorem am_w262 : Cond.code yX9_paint cX9_paint 4 (some .int) ∈ am_tb := am_cw_in (l := tables_1_7) (j := 7) (k := 197) rfl rfl rfl
theorem am_w263 : Cond.code yX9_painted cX9_painted 7 (some .int) ∈ am_tb := am_cw_in (l := tables_1_7) (j := 7) (k := 201) rfl rfl rfl
theorem am_w264 : Cond.code yX9_saves cX9_saves 2 none ∈ am_tb := am_cw_in (l := tables_1_7) (j := 7) (k := 209) rfl rfl rfl
theorem am_w265 : Cond.code yX9_restores cX9_restores 2 none ∈ am_tb := am_cw_in (l := tables_1_7) (j := 7) (k := 236) rfl rfl rfl
theorem am_w266 : Cond.code yX9_loopsBy cX9_loopsBy 6 (some .int) ∈ am_tb := am_cw_in (l := tables_1_7) (j := 7) (k := 213) rfl rfl rfl
theorem am_w267 : Cond.code yX9_loops cX9_loops 4 (some .int) ∈ am_tb := am_cw_in (l := tables_1_7) (j := 7) (k := 205) rfl rfl rfl
theorem am_w268 : Cond.code yX9_settings cX9_settings 6 (some .int) ∈ am_tb := am_cw_in (l := tables_1_7) (j := 7) (k := 217) rfl rfl rfl
theorem am_w269 : Cond.code yX9_laysBracket cX9_laysBracket 4 none ∈ am_tb := am_cw_in (l := tables_1_7) (j := 7) (k := 232) rfl rfl rfl
theorem am_w270 : Cond.code yX9_adds cX9_adds 5 none ∈ am_tb := am_cw_in (l := tables_1_8) (j := 8) (k := 0) rfl rfl rfl
theorem am_w271 : Cond.code yX9_multiplies cX9_multiplies 2 none ∈ am_tb := am_cw_in (l := tables_1_8) (j := 8) (k := 5) rfl rfl rfl
theorem am_w272 : Cond.code yX9_isBracket cX9_isBracket 3 (some .boolean) ∈ am_tb := am_cw_in (l := tables_1_7) (j := 7) (k := 225) rfl rfl rfl
theorem am_w273 : Cond.code yX9_bracket cX9_bracket 3 (some .long) ∈ am_tb := am_cw_in (l := tables_1_7) (j := 7) (k := 221) rfl rfl rfl
theorem am_w274 : Cond.code yX9_smooth cX9_smooth 7 (some .long) ∈ am_tb := am_cw_in (l := tables_1_8) (j := 8) (k := 9) rfl rfl rfl
theorem am_w275 : Cond.code yX9_laysBlocks cX9_laysBlocks 5 (some .int) ∈ am_tb := am_cw_in (l := tables_1_8) (j := 8) (k := 18) rfl rfl rfl
def am_cw230_l : List (MethodName × ByteArray × Nat × Option FieldType) := [(yX9_readsEdge, cX9_readsEdge, 5, none), (yX9_readsLine, cX9_readsLine, 2, none), (yX9_told, cX9_told, 5, (some .int)), (yX9_fault, cX9_fault, 2, (some .int)), (yX9_count, cX9_count, 4, (some .int)), (yX9_look, cX9_look, 3, (some .int)), (yX9_edge, cX9_edge, 3, (some .int)), (yX9_name, cX9_name, 4, (some .int)), (yX9_edgeOf, cX9_edgeOf, 4, (some .int)), (yX9_strand, cX9_strand, 4, (some .int)), (yX9_place, cX9_place, 4, (some .int)), (yX9_walk, cX9_walk, 4, (some .int)), (yX9_length, cX9_length, 3, (some .int)), (yX9_areStrands, cX9_areStrands, 4, (some .boolean)), (yX9_isOf, cX9_isOf, 4, (some .boolean)), (yX9_meets, cX9_meets, 6, (some .int)), (yX9_over, cX9_over, 6, (some .int)), (yX9_sign, cX9_sign, 3, (some .int)), (yX9_signsOf, cX9_signsOf, 5, (some .int)), (yX9_twist, cX9_twist, 3, (some .int)), (yX9_link, cX9_link, 4, (some .int)), (yX9_passings, cX9_passings, 2, (some .int)), (yX9_alternates, cX9_alternates, 5, (some .int)), (yX9_passed, cX9_passed, 4, (some .int)), (yX9_isOwn, cX9_isOwn, 2, (some .boolean)), (yX9_firstPass, cX9_firstPass, 2, (some .int)), (yX9_lastPass, cX9_lastPass, 2, (some .int)), (yX9_interlaced, cX9_interlaced, 6, (some .int)), (yX9_visits, cX9_visits, 5, (some .int)), (yX9_sideX, cX9_sideX, 3, (some .int)), (yX9_sideY, cX9_sideY, 3, (some .int)), (yX9_winds, cX9_winds, 16, (some .int)), (yX9_paint, cX9_paint, 4, (some .int)), (yX9_painted, cX9_painted, 7, (some .int)), (yX9_saves, cX9_saves, 2, none), (yX9_restores, cX9_restores, 2, none), (yX9_loopsBy, cX9_loopsBy, 6, (some .int)), (yX9_loops, cX9_loops, 4, (some .int)), (yX9_settings, cX9_settings, 6, (some .int)), (yX9_laysBracket, cX9_laysBracket, 4, none), (yX9_adds, cX9_adds, 5, none), (yX9_multiplies, cX9_multiplies, 2, none), (yX9_isBracket, cX9_isBracket, 3, (some .boolean)), (yX9_bracket, cX9_bracket, 3, (some .long)), (yX9_smooth, cX9_smooth, 7, (some .long)), (yX9_laysBlocks, cX9_laysBlocks, 5, (some .int))]
theorem am_cw230_ok : ∀ q ∈ am_cw230_l, Cond.code q.1 q.2.1 q.2.2.1 q.2.2.2 ∈ am_tb := List.forall_mem_cons.mpr ⟨am_w230, List.forall_mem_cons.mpr ⟨am_w231, List.forall_mem_cons.mpr ⟨am_w232, List.forall_mem_cons.mpr ⟨am_w233, List.forall_mem_cons.mpr ⟨am_w234, List.forall_mem_cons.mpr ⟨am_w235, List.forall_mem_cons.mpr ⟨am_w236, List.forall_mem_cons.mpr ⟨am_w237, List.forall_mem_cons.mpr ⟨am_w238, List.forall_mem_cons.mpr ⟨am_w239, List.forall_mem_cons.mpr ⟨am_w240, List.forall_mem_cons.mpr ⟨am_w241, List.forall_mem_cons.mpr ⟨am_w242, List.forall_mem_cons.mpr ⟨am_w243, List.forall_mem_cons.mpr ⟨am_w244, List.forall_mem_cons.mpr ⟨am_w245, List.forall_mem_cons.mpr ⟨am_w246, List.forall_mem_cons.mpr ⟨am_w247, List.forall_mem_cons.mpr ⟨am_w248, List.forall_mem_cons.mpr ⟨am_w249, List.forall_mem_cons.mpr ⟨am_w250, List.forall_mem_cons.mpr ⟨am_w251, List.forall_mem_cons.mpr ⟨am_w252, List.forall_mem_cons.mpr ⟨am_w253, List.forall_mem_cons.mpr ⟨am_w254, List.forall_mem_cons.mpr ⟨am_w255, List.forall_mem_cons.mpr ⟨am_w256, List.forall_mem_cons.mpr ⟨am_w257, List.forall_mem_cons.mpr ⟨am_w258, List.forall_mem_cons.mpr ⟨am_w259, List.forall_mem_cons.mpr ⟨am_w260, List.forall_mem_cons.mpr ⟨am_w261, List.forall_mem_cons.mpr ⟨am_w262, List.forall_mem_cons.mpr ⟨am_w263, List.forall_mem_cons.mpr ⟨am_w264, List.forall_mem_cons.mpr ⟨am_w265, List.forall_mem_cons.mpr ⟨am_w266, List.forall_mem_cons.mpr ⟨am_w267, List.forall_mem_cons.mpr ⟨am_w268, List.forall_mem_cons.mpr ⟨am_w269, List.forall_mem_cons.mpr ⟨am_w270, List.forall_mem_cons.mpr ⟨am_w271, List.forall_mem_cons.mpr ⟨am_w272, List.forall_mem_cons.mpr ⟨am_w273, List.forall_mem_cons.mpr ⟨am_w274, List.forall_mem_cons.mpr ⟨am_w275, fun _ h => absurd h List.not_mem_nil⟩⟩⟩⟩⟩⟩⟩⟩⟩⟩⟩⟩⟩⟩⟩⟩⟩⟩⟩⟩⟩⟩⟩⟩⟩⟩⟩⟩⟩⟩⟩⟩⟩⟩⟩⟩⟩⟩⟩⟩⟩⟩⟩⟩⟩⟩
theorem am_w276 : Cond.code yX9_determinant cX9_determinant 10 (some .long) ∈ am_tb := am_cw_in (l := tables_1_8) (j := 8) (k := 22) rfl rfl rfl
theorem am_w277 : Cond.code yX9_trees cX9_trees 6 (some .long) ∈ am_tb := am_cw_in (l := tables_1_8) (j := 8) (k := 13) rfl rfl rfl
theorem am_w278 : Cond.code yX9_laysArcs cX9_laysArcs 7 (some .int) ∈ am_tb := am_cw_in (l := tables_1_8) (j := 8) (k := 33) rfl rfl rfl
theorem am_w279 : Cond.code yX9_arcAhead cX9_arcAhead 5 (some .int) ∈ am_tb := am_cw_in (l := tables_1_8) (j := 8) (k := 37) rfl rfl rfl
theorem am_w280 : Cond.code yX9_left cX9_left 2 (some .int) ∈ am_tb := am_cw_in (l := tables_1_8) (j := 8) (k := 40) rfl rfl rfl
theorem am_w281 : Cond.code yX9_rankBy cX9_rankBy 11 (some .int) ∈ am_tb := am_cw_in (l := tables_1_8) (j := 8) (k := 44) rfl rfl rfl
theorem am_w282 : Cond.code yX9_isPrime cX9_isPrime 1 (some .boolean) ∈ am_tb := am_cw_in (l := tables_1_8) (j := 8) (k := 29) rfl rfl rfl
theorem am_w283 : Cond.code yX9_colours cX9_colours 7 (some .int) ∈ am_tb := am_cw_in (l := tables_1_8) (j := 8) (k := 26) rfl rfl rfl
theorem am_w284 : Cond.code yX9_needs cX9_needs 2 (some .int) ∈ am_tb := am_cw_in (l := tables_1_8) (j := 8) (k := 48) rfl rfl rfl
theorem am_w285 : Cond.code yX9_oneLine cX9_oneLine 4 (some .int) ∈ am_tb := am_cw_in (l := tables_1_8) (j := 8) (k := 52) rfl rfl rfl
theorem am_w286 : Cond.code yX9_isKink cX9_isKink 3 (some .boolean) ∈ am_tb := am_cw_in (l := tables_1_8) (j := 8) (k := 64) rfl rfl rfl
theorem am_w287 : Cond.code yX9_firstKink cX9_firstKink 2 (some .int) ∈ am_tb := am_cw_in (l := tables_1_8) (j := 8) (k := 60) rfl rfl rfl
theorem am_w288 : Cond.code yX9_eases cX9_eases 5 (some .int) ∈ am_tb := am_cw_in (l := tables_1_8) (j := 8) (k := 56) rfl rfl rfl
theorem am_w289 : Cond.code yX9_sets cX9_sets 5 (some .int) ∈ am_tb := am_cw_in (l := tables_1_8) (j := 8) (k := 68) rfl rfl rfl
theorem am_w290 : Cond.code yX9_all cX9_all 6 (some .int) ∈ am_tb := am_cw_in (l := tables_1_8) (j := 8) (k := 72) rfl rfl rfl
theorem am_w291 : Cond.code yX9_turnsCrosses cX9_turnsCrosses 2 none ∈ am_tb := am_cw_in (l := tables_1_8) (j := 8) (k := 80) rfl rfl rfl
theorem am_w292 : Cond.code yX9_under cX9_under 2 (some .int) ∈ am_tb := am_cw_in (l := tables_1_8) (j := 8) (k := 76) rfl rfl rfl
theorem am_w293 : Cond.code yX9_olds cX9_olds 2 none ∈ am_tb := am_cw_in (l := tables_1_8) (j := 8) (k := 92) rfl rfl rfl
theorem am_w294 : Cond.code yX9_turns cX9_turns 6 none ∈ am_tb := am_cw_in (l := tables_1_8) (j := 8) (k := 88) rfl rfl rfl
theorem am_w295 : Cond.code yX9_mirrors cX9_mirrors 4 none ∈ am_tb := am_cw_in (l := tables_1_8) (j := 8) (k := 100) rfl rfl rfl
theorem am_w296 : Cond.code yX9_quarter cX9_quarter 2 (some .int) ∈ am_tb := am_cw_in (l := tables_1_8) (j := 8) (k := 84) rfl rfl rfl
theorem am_w297 : Cond.code yX9_mirror cX9_mirror 2 (some .int) ∈ am_tb := am_cw_in (l := tables_1_8) (j := 8) (k := 96) rfl rfl rfl
theorem am_w298 : Cond.code yX9_beside cX9_beside 12 (some .int) ∈ am_tb := am_cw_in (l := tables_1_8) (j := 8) (k := 104) rfl rfl rfl
theorem am_w299 : Cond.code yX9_isAs cX9_isAs 4 (some .boolean) ∈ am_tb := am_cw_in (l := tables_1_8) (j := 8) (k := 112) rfl rfl rfl
theorem am_w300 : Cond.code yX9_alike cX9_alike 4 (some .int) ∈ am_tb := am_cw_in (l := tables_1_8) (j := 8) (k := 108) rfl rfl rfl
theorem am_w301 : Cond.code yX9_same cX9_same 4 (some .int) ∈ am_tb := am_cw_in (l := tables_1_8) (j := 8) (k := 116) rfl rfl rfl
theorem am_w302 : Cond.code yX9_plain cX9_plain 6 (some .int) ∈ am_tb := am_cw_in (l := tables_1_8) (j := 8) (k := 120) rfl rfl rfl
theorem am_w303 : Cond.code yX9_says cX9_says 3 none ∈ am_tb := am_cw_in (l := tables_1_8) (j := 8) (k := 134) rfl rfl rfl
theorem am_w304 : Cond.code yX9_saysNumber cX9_saysNumber 2 none ∈ am_tb := am_cw_in (l := tables_1_8) (j := 8) (k := 138) rfl rfl rfl
theorem am_w305 : Cond.code yX9_saysLine cX9_saysLine 5 none ∈ am_tb := am_cw_in (l := tables_1_8) (j := 8) (k := 145) rfl rfl rfl
theorem am_w306 : Cond.code yX9_saysPaint cX9_saysPaint 4 none ∈ am_tb := am_cw_in (l := tables_1_8) (j := 8) (k := 129) rfl rfl rfl
theorem am_w307 : Cond.code yX9_tell cX9_tell 3 (some .int) ∈ am_tb := am_cw_in (l := tables_1_8) (j := 8) (k := 125) rfl rfl rfl
theorem am_w308 : Cond.code yX9_octet cX9_octet 2 (some .int) ∈ am_tb := am_cw_in (l := tables_1_8) (j := 8) (k := 154) rfl rfl rfl
theorem am_w309 : Cond.code yJ9_floorMod_7cf53 cJ9_floorMod_7cf53 3 (some .int) ∈ am_tb := am_cw_in (l := tables_1_5) (j := 5) (k := 51) rfl rfl rfl
theorem am_w310 : Cond.code yJ9_abs_0f7a4 cJ9_abs_0f7a4 1 (some .int) ∈ am_tb := am_cw_in (l := tables_1_5) (j := 5) (k := 87) rfl rfl rfl
theorem am_w311 : Cond.code yJ9_max_7cf53 cJ9_max_7cf53 2 (some .int) ∈ am_tb := am_cw_in (l := tables_1_5) (j := 5) (k := 31) rfl rfl rfl
theorem am_w312 : Cond.code yJ9_min_7cf53 cJ9_min_7cf53 2 (some .int) ∈ am_tb := am_cw_in (l := tables_1_2) (j := 2) (k := 197) rfl rfl rfl
theorem am_w313 : Cond.code yJ0_length_8abf5 cJ0_length_8abf5 1 (some .int) ∈ am_tb := am_cw_in (l := tables_1_2) (j := 2) (k := 137) rfl rfl rfl
theorem am_w314 : Cond.code yJ0_charAt_5068e cJ0_charAt_5068e 2 (some .char) ∈ am_tb := am_cw_in (l := tables_1_2) (j := 2) (k := 147) rfl rfl rfl
theorem am_w315 : Cond.code yJ0_coder_7d493 cJ0_coder_7d493 1 (some .byte) ∈ am_tb := am_cw_in (l := tables_1_2) (j := 2) (k := 141) rfl rfl rfl
theorem am_w316 : Cond.code yJ0_isLatin1_aae02 cJ0_isLatin1_aae02 1 (some .boolean) ∈ am_tb := am_cw_in (l := tables_1_2) (j := 2) (k := 151) rfl rfl rfl
theorem am_w317 : Cond.code yJ0_checkIndex_df160 cJ0_checkIndex_df160 2 none ∈ am_tb := am_cw_in (l := tables_1_2) (j := 2) (k := 157) rfl rfl rfl
theorem am_w318 : Cond.code yJ1_charAt_3b067 cJ1_charAt_3b067 2 (some .char) ∈ am_tb := am_cw_in (l := tables_1_2) (j := 2) (k := 154) rfl rfl rfl
theorem am_w319 : Cond.code yJ7_fill_d0a16 cJ7_fill_d0a16 5 none ∈ am_tb := am_cw_in (l := tables_1_4) (j := 4) (k := 139) rfl rfl rfl
theorem am_w320 : Cond.code yJ7_fill_53178 cJ7_fill_53178 4 none ∈ am_tb := am_cw_in (l := tables_1_2) (j := 2) (k := 101) rfl rfl rfl
theorem am_w321 : Cond.code yJ3_checkIndex_8e157 cJ3_checkIndex_8e157 3 (some .int) ∈ am_tb := am_cw_in (l := tables_1_2) (j := 2) (k := 162) rfl rfl rfl
def am_cw276_l : List (MethodName × ByteArray × Nat × Option FieldType) := [(yX9_determinant, cX9_determinant, 10, (some .long)), (yX9_trees, cX9_trees, 6, (some .long)), (yX9_laysArcs, cX9_laysArcs, 7, (some .int)), (yX9_arcAhead, cX9_arcAhead, 5, (some .int)), (yX9_left, cX9_left, 2, (some .int)), (yX9_rankBy, cX9_rankBy, 11, (some .int)), (yX9_isPrime, cX9_isPrime, 1, (some .boolean)), (yX9_colours, cX9_colours, 7, (some .int)), (yX9_needs, cX9_needs, 2, (some .int)), (yX9_oneLine, cX9_oneLine, 4, (some .int)), (yX9_isKink, cX9_isKink, 3, (some .boolean)), (yX9_firstKink, cX9_firstKink, 2, (some .int)), (yX9_eases, cX9_eases, 5, (some .int)), (yX9_sets, cX9_sets, 5, (some .int)), (yX9_all, cX9_all, 6, (some .int)), (yX9_turnsCrosses, cX9_turnsCrosses, 2, none), (yX9_under, cX9_under, 2, (some .int)), (yX9_olds, cX9_olds, 2, none), (yX9_turns, cX9_turns, 6, none), (yX9_mirrors, cX9_mirrors, 4, none), (yX9_quarter, cX9_quarter, 2, (some .int)), (yX9_mirror, cX9_mirror, 2, (some .int)), (yX9_beside, cX9_beside, 12, (some .int)), (yX9_isAs, cX9_isAs, 4, (some .boolean)), (yX9_alike, cX9_alike, 4, (some .int)), (yX9_same, cX9_same, 4, (some .int)), (yX9_plain, cX9_plain, 6, (some .int)), (yX9_says, cX9_says, 3, none), (yX9_saysNumber, cX9_saysNumber, 2, none), (yX9_saysLine, cX9_saysLine, 5, none), (yX9_saysPaint, cX9_saysPaint, 4, none), (yX9_tell, cX9_tell, 3, (some .int)), (yX9_octet, cX9_octet, 2, (some .int)), (yJ9_floorMod_7cf53, cJ9_floorMod_7cf53, 3, (some .int)), (yJ9_abs_0f7a4, cJ9_abs_0f7a4, 1, (some .int)), (yJ9_max_7cf53, cJ9_max_7cf53, 2, (some .int)), (yJ9_min_7cf53, cJ9_min_7cf53, 2, (some .int)), (yJ0_length_8abf5, cJ0_length_8abf5, 1, (some .int)), (yJ0_charAt_5068e, cJ0_charAt_5068e, 2, (some .char)), (yJ0_coder_7d493, cJ0_coder_7d493, 1, (some .byte)), (yJ0_isLatin1_aae02, cJ0_isLatin1_aae02, 1, (some .boolean)), (yJ0_checkIndex_df160, cJ0_checkIndex_df160, 2, none), (yJ1_charAt_3b067, cJ1_charAt_3b067, 2, (some .char)), (yJ7_fill_d0a16, cJ7_fill_d0a16, 5, none), (yJ7_fill_53178, cJ7_fill_53178, 4, none), (yJ3_checkIndex_8e157, cJ3_checkIndex_8e157, 3, (some .int))]
theorem am_cw276_ok : ∀ q ∈ am_cw276_l, Cond.code q.1 q.2.1 q.2.2.1 q.2.2.2 ∈ am_tb := List.forall_mem_cons.mpr ⟨am_w276, List.forall_mem_cons.mpr ⟨am_w277, List.forall_mem_cons.mpr ⟨am_w278, List.forall_mem_cons.mpr ⟨am_w279, List.forall_mem_cons.mpr ⟨am_w280, List.forall_mem_cons.mpr ⟨am_w281, List.forall_mem_cons.mpr ⟨am_w282, List.forall_mem_cons.mpr ⟨am_w283, List.forall_mem_cons.mpr ⟨am_w284, List.forall_mem_cons.mpr ⟨am_w285, List.forall_mem_cons.mpr ⟨am_w286, List.forall_mem_cons.mpr ⟨am_w287, List.forall_mem_cons.mpr ⟨am_w288, List.forall_mem_cons.mpr ⟨am_w289, List.forall_mem_cons.mpr ⟨am_w290, List.forall_mem_cons.mpr ⟨am_w291, List.forall_mem_cons.mpr ⟨am_w292, List.forall_mem_cons.mpr ⟨am_w293, List.forall_mem_cons.mpr ⟨am_w294, List.forall_mem_cons.mpr ⟨am_w295, List.forall_mem_cons.mpr ⟨am_w296, List.forall_mem_cons.mpr ⟨am_w297, List.forall_mem_cons.mpr ⟨am_w298, List.forall_mem_cons.mpr ⟨am_w299, List.forall_mem_cons.mpr ⟨am_w300, List.forall_mem_cons.mpr ⟨am_w301, List.forall_mem_cons.mpr ⟨am_w302, List.forall_mem_cons.mpr ⟨am_w303, List.forall_mem_cons.mpr ⟨am_w304, List.forall_mem_cons.mpr ⟨am_w305, List.forall_mem_cons.mpr ⟨am_w306, List.forall_mem_cons.mpr ⟨am_w307, List.forall_mem_cons.mpr ⟨am_w308, List.forall_mem_cons.mpr ⟨am_w309, List.forall_mem_cons.mpr ⟨am_w310, List.forall_mem_cons.mpr ⟨am_w311, List.forall_mem_cons.mpr ⟨am_w312, List.forall_mem_cons.mpr ⟨am_w313, List.forall_mem_cons.mpr ⟨am_w314, List.forall_mem_cons.mpr ⟨am_w315, List.forall_mem_cons.mpr ⟨am_w316, List.forall_mem_cons.mpr ⟨am_w317, List.forall_mem_cons.mpr ⟨am_w318, List.forall_mem_cons.mpr ⟨am_w319, List.forall_mem_cons.mpr ⟨am_w320, List.forall_mem_cons.mpr ⟨am_w321, fun _ h => absurd h List.not_mem_nil⟩⟩⟩⟩⟩⟩⟩⟩⟩⟩⟩⟩⟩⟩⟩⟩⟩⟩⟩⟩⟩⟩⟩⟩⟩⟩⟩⟩⟩⟩⟩⟩⟩⟩⟩⟩⟩⟩⟩⟩⟩⟩⟩⟩⟩⟩
def am_cwl : List (MethodName × ByteArray × Nat × Option FieldType) := am_cw0_l ++ (am_cw46_l ++ (am_cw92_l ++ (am_cw138_l ++ (am_cw184_l ++ (am_cw230_l ++ (am_cw276_l))))))
theorem am_cwl_ok : ∀ q ∈ am_cwl, Cond.code q.1 q.2.1 q.2.2.1 q.2.2.2 ∈ am_tb := List.forall_mem_append.mpr ⟨am_cw0_ok, List.forall_mem_append.mpr ⟨am_cw46_ok, List.forall_mem_append.mpr ⟨am_cw92_ok, List.forall_mem_append.mpr ⟨am_cw138_ok, List.forall_mem_append.mpr ⟨am_cw184_ok, List.forall_mem_append.mpr ⟨am_cw230_ok, am_cw276_ok⟩⟩⟩⟩⟩⟩
set_option maxRecDepth 100000 in
theorem am_cwl_y : am_cwl.map (fun q => q.1) = am_ys.take 322 := rfl
set_option maxRecDepth 100000 in
theorem am_cwl_b : am_cwl.map (fun q => q.2.1) = am_bs.take 322 := rfl
set_option maxRecDepth 100000 in
theorem am_cwl_m : am_cwl.map (fun q => q.2.2.1) = am_mls.take 322 := rfl
set_option maxRecDepth 100000 in
theorem am_cwl_r : am_cwl.map (fun q => q.2.2.2) = am_rets.take 322 := rfl
theorem am_getD_of {α β : Type} {l : List α} {f : α → β} {ls : List β} {M n : Nat} {q : α} (h : l.map f = ls.take n) (hq : l[M]? = some q) (hM : M < n) (d : β) : ls.getD M d = f q := by
  have h1 : (l.map f)[M]? = some (f q) := by rw [List.getElem?_map, hq]; rfl
  rw [h, List.getElem?_take, if_pos hM] at h1
  rw [List.getD_eq_getElem?_getD, h1]
  rfl
theorem am_cwl_len : am_cwl.length = 322 := by decide +kernel
theorem am_codew {M : Nat} (hM : M < 322) : Cond.code (am_ys.getD M yL_law) (am_bs.getD M ByteArray.empty) (am_mls.getD M 0) (am_rets.getD M none) ∈ am_tb := by
  obtain ⟨q, hq⟩ : ∃ q, am_cwl[M]? = some q := by
    cases h : am_cwl[M]? with
    | none =>
      have h2 := List.getElem?_eq_none_iff.mp h
      rw [am_cwl_len] at h2
      omega
    | some q => exact ⟨q, rfl⟩
  rw [am_getD_of am_cwl_y hq hM, am_getD_of am_cwl_b hq hM, am_getD_of am_cwl_m hq hM, am_getD_of am_cwl_r hq hM]
  exact am_cwl_ok _ (List.mem_of_getElem? hq)

theorem tt1 {w : Cond} (h : w ∈ tables_1_1) : w ∈ lw_tbl := List.mem_append_right _ (List.mem_append_left _ h)
theorem tb1 {w : Cond} (h : w ∈ tables_1_1) (g : goodWord w = true) : w ∈ AW := List.mem_filter.mpr ⟨tt1 h, g⟩
theorem tn1 {w : Cond} (h : w ∈ tables_1_1) (g : jIsNest w = true) : w ∈ nestL := List.mem_filter.mpr ⟨tt1 h, g⟩
theorem tt2 {w : Cond} (h : w ∈ tables_1_2) : w ∈ lw_tbl := List.mem_append_right _ (List.mem_append_right _ (List.mem_append_left _ h))
theorem tb2 {w : Cond} (h : w ∈ tables_1_2) (g : goodWord w = true) : w ∈ AW := List.mem_filter.mpr ⟨tt2 h, g⟩
theorem tn2 {w : Cond} (h : w ∈ tables_1_2) (g : jIsNest w = true) : w ∈ nestL := List.mem_filter.mpr ⟨tt2 h, g⟩
theorem tt3 {w : Cond} (h : w ∈ tables_1_3) : w ∈ lw_tbl := List.mem_append_right _ (List.mem_append_right _ (List.mem_append_right _ (List.mem_append_left _ h)))
theorem tb3 {w : Cond} (h : w ∈ tables_1_3) (g : goodWord w = true) : w ∈ AW := List.mem_filter.mpr ⟨tt3 h, g⟩
theorem tn3 {w : Cond} (h : w ∈ tables_1_3) (g : jIsNest w = true) : w ∈ nestL := List.mem_filter.mpr ⟨tt3 h, g⟩
theorem tt4 {w : Cond} (h : w ∈ tables_1_4) : w ∈ lw_tbl := List.mem_append_right _ (List.mem_append_right _ (List.mem_append_right _ (List.mem_append_right _ h)))
theorem tb4 {w : Cond} (h : w ∈ tables_1_4) (g : goodWord w = true) : w ∈ AW := List.mem_filter.mpr ⟨tt4 h, g⟩
theorem tn4 {w : Cond} (h : w ∈ tables_1_4) (g : jIsNest w = true) : w ∈ nestL := List.mem_filter.mpr ⟨tt4 h, g⟩
theorem tp1 {q : MethodName × Nat} (h : q ∈ lw_privs_1) : Cond.selects q.1.cls q.1 q.1 ∈ AW := List.mem_filter.mpr ⟨List.mem_append_left _ (List.mem_map.mpr ⟨q, (List.mem_append_left _ h), rfl⟩), rfl⟩
theorem tp2 {q : MethodName × Nat} (h : q ∈ lw_privs_2) : Cond.selects q.1.cls q.1 q.1 ∈ AW := List.mem_filter.mpr ⟨List.mem_append_left _ (List.mem_map.mpr ⟨q, (List.mem_append_right _ (List.mem_append_left _ h)), rfl⟩), rfl⟩
theorem tp3 {q : MethodName × Nat} (h : q ∈ lw_privs_3) : Cond.selects q.1.cls q.1 q.1 ∈ AW := List.mem_filter.mpr ⟨List.mem_append_left _ (List.mem_map.mpr ⟨q, (List.mem_append_right _ (List.mem_append_right _ (List.mem_append_left _ h))), rfl⟩), rfl⟩
theorem tp4 {q : MethodName × Nat} (h : q ∈ lw_privs_4) : Cond.selects q.1.cls q.1 q.1 ∈ AW := List.mem_filter.mpr ⟨List.mem_append_left _ (List.mem_map.mpr ⟨q, (List.mem_append_right _ (List.mem_append_right _ (List.mem_append_right _ h))), rfl⟩), rfl⟩
theorem mm {w c : Cond} (h : w ∈ AW) : w ∈ c :: AW := List.mem_cons_of_mem _ h
theorem aw_sub {Ts ex : List Cond} {cd : Cond} (hs : ∀ w ∈ AW, w ∈ Ts) (hx : ∀ w ∈ ex, w ∈ AW) (hc : cd ∈ AW) : GoodIn Ts (ex ++ (cd :: AW)) := by
  intro w hw
  have h : w ∈ AW := by
    rcases List.mem_append.mp hw with h | h
    · exact hx w h
    · rcases List.mem_cons.mp h with h | h
      · rw [h]; exact hc
      · exact h
  exact ⟨hs w h, good_of_word (List.mem_filter.mp h).2⟩
theorem aw_V {Ts : List Cond} {own C : String} {idx : Nat} {y : MethodName} {cd : Cond} (hs : ∀ w ∈ AW, w ∈ Ts) (h1 : Cond.methodLink own idx y ∈ AW) (h2 : Cond.instanceMethod y ∈ AW) (h3 : Cond.selects C y y ∈ AW) (h4 : Cond.initialized C ∈ AW) (hc : cd ∈ AW) : GoodIn Ts (wsV own idx C y (cd :: AW)) := aw_sub hs (List.forall_mem_cons.mpr ⟨h1, List.forall_mem_cons.mpr ⟨h2, List.forall_mem_cons.mpr ⟨h3, List.forall_mem_cons.mpr ⟨h4, fun _ h => absurd h List.not_mem_nil⟩⟩⟩⟩) hc
theorem aw_S {Ts : List Cond} {own : String} {idx : Nat} {y : MethodName} {cd : Cond} (hs : ∀ w ∈ AW, w ∈ Ts) (h1 : Cond.methodLink own idx y ∈ AW) (h2 : Cond.static y ∈ AW) (h4 : Cond.initialized y.cls ∈ AW) (hc : cd ∈ AW) : GoodIn Ts (va_wsS own idx y (cd :: AW)) := aw_sub hs (List.forall_mem_cons.mpr ⟨h1, List.forall_mem_cons.mpr ⟨h2, List.forall_mem_cons.mpr ⟨h4, fun _ h => absurd h List.not_mem_nil⟩⟩⟩) hc
theorem aw_I {Ts : List Cond} {cd : Cond} (hs : ∀ w ∈ AW, w ∈ Ts) (hc : cd ∈ AW) : GoodIn Ts (cd :: AW) := aw_sub (ex := []) hs (fun _ h => absurd h List.not_mem_nil) hc
theorem in_Bytes : ∀ w ∈ u_ws R_Bytes T_Bytes 2, w ∈ AW := (show ∀ w ∈ [Cond.lays "SegmentReader$Bytes" "SegmentReader$Bytes" "held" "[B", Cond.lays "SegmentReader$Bytes" "SegmentReader$Bytes" "size" "I"], w ∈ AW from List.forall_mem_cons.mpr ⟨tb1 (List.mem_of_getElem? (i := 29) rfl) rfl, List.forall_mem_cons.mpr ⟨tb1 (List.mem_of_getElem? (i := 31) rfl) rfl, fun _ h => absurd h List.not_mem_nil⟩⟩)
theorem in_Numbers : ∀ w ∈ u_ws R_Numbers T_Numbers 2, w ∈ AW := (show ∀ w ∈ [Cond.lays "SegmentReader$Numbers" "SegmentReader$Numbers" "held" "[I", Cond.lays "SegmentReader$Numbers" "SegmentReader$Numbers" "size" "I"], w ∈ AW from List.forall_mem_cons.mpr ⟨tb1 (List.mem_of_getElem? (i := 50) rfl) rfl, List.forall_mem_cons.mpr ⟨tb1 (List.mem_of_getElem? (i := 52) rfl) rfl, fun _ h => absurd h List.not_mem_nil⟩⟩)
theorem in_Parser : ∀ w ∈ u_ws R_Parser T_Parser 11, w ∈ AW := (show ∀ w ∈ [Cond.laysFinal "SegmentReader$Parser" "SegmentReader$Parser" "input" "LSegmentReader$Bytes;", Cond.laysFinal "SegmentReader$Parser" "SegmentReader$Parser" "picture" "LSegmentReader$Picture;", Cond.laysFinal "SegmentReader$Parser" "SegmentReader$Parser" "scan" "LSegmentReader$Scan;", Cond.laysFinal "SegmentReader$Parser" "SegmentReader$Parser" "latestBits" "[I", Cond.laysFinal "SegmentReader$Parser" "SegmentReader$Parser" "seen" "[J", Cond.lays "SegmentReader$Parser" "SegmentReader$Parser" "place" "I", Cond.lays "SegmentReader$Parser" "SegmentReader$Parser" "lengthPlace" "I", Cond.lays "SegmentReader$Parser" "SegmentReader$Parser" "contentsEnd" "I", Cond.lays "SegmentReader$Parser" "SegmentReader$Parser" "linesDue" "Z", Cond.lays "SegmentReader$Parser" "SegmentReader$Parser" "fault" "I", Cond.lays "SegmentReader$Parser" "SegmentReader$Parser" "faultPlace" "I"], w ∈ AW from List.forall_mem_cons.mpr ⟨tb1 (List.mem_of_getElem? (i := 157) rfl) rfl, List.forall_mem_cons.mpr ⟨tb1 (List.mem_of_getElem? (i := 159) rfl) rfl, List.forall_mem_cons.mpr ⟨tb1 (List.mem_of_getElem? (i := 161) rfl) rfl, List.forall_mem_cons.mpr ⟨tb1 (List.mem_of_getElem? (i := 163) rfl) rfl, List.forall_mem_cons.mpr ⟨tb1 (List.mem_of_getElem? (i := 165) rfl) rfl, List.forall_mem_cons.mpr ⟨tb1 (List.mem_of_getElem? (i := 167) rfl) rfl, List.forall_mem_cons.mpr ⟨tb1 (List.mem_of_getElem? (i := 169) rfl) rfl, List.forall_mem_cons.mpr ⟨tb1 (List.mem_of_getElem? (i := 171) rfl) rfl, List.forall_mem_cons.mpr ⟨tb1 (List.mem_of_getElem? (i := 173) rfl) rfl, List.forall_mem_cons.mpr ⟨tb1 (List.mem_of_getElem? (i := 175) rfl) rfl, List.forall_mem_cons.mpr ⟨tb1 (List.mem_of_getElem? (i := 177) rfl) rfl, fun _ h => absurd h List.not_mem_nil⟩⟩⟩⟩⟩⟩⟩⟩⟩⟩⟩)
theorem in_Picture : ∀ w ∈ u_ws R_Picture T_Picture 12, w ∈ AW := (show ∀ w ∈ [Cond.laysFinal "SegmentReader$Picture" "SegmentReader$Picture" "input" "LSegmentReader$Bytes;", Cond.laysFinal "SegmentReader$Picture" "SegmentReader$Picture" "segments" "LSegmentReader$Numbers;", Cond.laysFinal "SegmentReader$Picture" "SegmentReader$Picture" "scans" "LSegmentReader$Numbers;", Cond.laysFinal "SegmentReader$Picture" "SegmentReader$Picture" "components" "[I", Cond.laysFinal "SegmentReader$Picture" "SegmentReader$Picture" "quantisersAt" "[I", Cond.laysFinal "SegmentReader$Picture" "SegmentReader$Picture" "wordsAt" "[I", Cond.lays "SegmentReader$Picture" "SegmentReader$Picture" "frameCode" "I", Cond.lays "SegmentReader$Picture" "SegmentReader$Picture" "width" "I", Cond.lays "SegmentReader$Picture" "SegmentReader$Picture" "height" "I", Cond.lays "SegmentReader$Picture" "SegmentReader$Picture" "componentCount" "I", Cond.lays "SegmentReader$Picture" "SegmentReader$Picture" "interval" "I", Cond.lays "SegmentReader$Picture" "SegmentReader$Picture" "end" "I"], w ∈ AW from List.forall_mem_cons.mpr ⟨tb1 (List.mem_of_getElem? (i := 83) rfl) rfl, List.forall_mem_cons.mpr ⟨tb1 (List.mem_of_getElem? (i := 85) rfl) rfl, List.forall_mem_cons.mpr ⟨tb1 (List.mem_of_getElem? (i := 87) rfl) rfl, List.forall_mem_cons.mpr ⟨tb1 (List.mem_of_getElem? (i := 89) rfl) rfl, List.forall_mem_cons.mpr ⟨tb1 (List.mem_of_getElem? (i := 91) rfl) rfl, List.forall_mem_cons.mpr ⟨tb1 (List.mem_of_getElem? (i := 93) rfl) rfl, List.forall_mem_cons.mpr ⟨tb1 (List.mem_of_getElem? (i := 95) rfl) rfl, List.forall_mem_cons.mpr ⟨tb1 (List.mem_of_getElem? (i := 97) rfl) rfl, List.forall_mem_cons.mpr ⟨tb1 (List.mem_of_getElem? (i := 99) rfl) rfl, List.forall_mem_cons.mpr ⟨tb1 (List.mem_of_getElem? (i := 101) rfl) rfl, List.forall_mem_cons.mpr ⟨tb1 (List.mem_of_getElem? (i := 103) rfl) rfl, List.forall_mem_cons.mpr ⟨tb1 (List.mem_of_getElem? (i := 105) rfl) rfl, fun _ h => absurd h List.not_mem_nil⟩⟩⟩⟩⟩⟩⟩⟩⟩⟩⟩⟩)
theorem in_Scan : ∀ w ∈ u_ws R_Scan T_Scan 7, w ∈ AW := (show ∀ w ∈ [Cond.lays "SegmentReader$Scan" "SegmentReader$Scan" "contents" "I", Cond.lays "SegmentReader$Scan" "SegmentReader$Scan" "count" "I", Cond.lays "SegmentReader$Scan" "SegmentReader$Scan" "first" "I", Cond.lays "SegmentReader$Scan" "SegmentReader$Scan" "last" "I", Cond.lays "SegmentReader$Scan" "SegmentReader$Scan" "before" "I", Cond.lays "SegmentReader$Scan" "SegmentReader$Scan" "bits" "I", Cond.laysFinal "SegmentReader$Scan" "SegmentReader$Scan" "places" "[I"], w ∈ AW from List.forall_mem_cons.mpr ⟨tb1 (List.mem_of_getElem? (i := 129) rfl) rfl, List.forall_mem_cons.mpr ⟨tb1 (List.mem_of_getElem? (i := 131) rfl) rfl, List.forall_mem_cons.mpr ⟨tb1 (List.mem_of_getElem? (i := 133) rfl) rfl, List.forall_mem_cons.mpr ⟨tb1 (List.mem_of_getElem? (i := 135) rfl) rfl, List.forall_mem_cons.mpr ⟨tb1 (List.mem_of_getElem? (i := 137) rfl) rfl, List.forall_mem_cons.mpr ⟨tb1 (List.mem_of_getElem? (i := 139) rfl) rfl, List.forall_mem_cons.mpr ⟨tb1 (List.mem_of_getElem? (i := 141) rfl) rfl, fun _ h => absurd h List.not_mem_nil⟩⟩⟩⟩⟩⟩⟩)
theorem in_Reader : ∀ w ∈ u_ws R_Reader T_Reader 3, w ∈ AW := (show ∀ w ∈ [Cond.laysFinal "SegmentReader" "SegmentReader" "input" "LSegmentReader$Bytes;", Cond.laysFinal "SegmentReader" "SegmentReader" "picture" "LSegmentReader$Picture;", Cond.laysFinal "SegmentReader" "SegmentReader" "parser" "LSegmentReader$Parser;"], w ∈ AW from List.forall_mem_cons.mpr ⟨tb1 (List.mem_of_getElem? (i := 184) rfl) rfl, List.forall_mem_cons.mpr ⟨tb1 (List.mem_of_getElem? (i := 186) rfl) rfl, List.forall_mem_cons.mpr ⟨tb1 (List.mem_of_getElem? (i := 188) rfl) rfl, fun _ h => absurd h List.not_mem_nil⟩⟩⟩)
theorem in_Model : ∀ w ∈ u_ws R_Model T_Model 40, w ∈ AW := (show ∀ w ∈ [Cond.lays "SegmentReaderModel" "SegmentReaderModel" "thrown" "I", Cond.laysFinal "SegmentReaderModel" "SegmentReaderModel" "input" "[B", Cond.lays "SegmentReaderModel" "SegmentReaderModel" "size" "I", Cond.lays "SegmentReaderModel" "SegmentReaderModel" "fault" "I", Cond.lays "SegmentReaderModel" "SegmentReaderModel" "place" "I", Cond.lays "SegmentReaderModel" "SegmentReaderModel" "p" "I", Cond.lays "SegmentReaderModel" "SegmentReaderModel" "end" "I", Cond.lays "SegmentReaderModel" "SegmentReaderModel" "first" "I", Cond.lays "SegmentReaderModel" "SegmentReaderModel" "ends" "I", Cond.lays "SegmentReaderModel" "SegmentReaderModel" "segments" "I", Cond.laysFinal "SegmentReaderModel" "SegmentReaderModel" "segmentRows" "[I", Cond.lays "SegmentReaderModel" "SegmentReaderModel" "frameCode" "I", Cond.lays "SegmentReaderModel" "SegmentReaderModel" "width" "I", Cond.lays "SegmentReaderModel" "SegmentReaderModel" "height" "I", Cond.lays "SegmentReaderModel" "SegmentReaderModel" "components" "I", Cond.laysFinal "SegmentReaderModel" "SegmentReaderModel" "names" "[I", Cond.laysFinal "SegmentReaderModel" "SegmentReaderModel" "across" "[I", Cond.laysFinal "SegmentReaderModel" "SegmentReaderModel" "down" "[I", Cond.laysFinal "SegmentReaderModel" "SegmentReaderModel" "tables" "[I", Cond.lays "SegmentReaderModel" "SegmentReaderModel" "interval" "I", Cond.laysFinal "SegmentReaderModel" "SegmentReaderModel" "hasQuantiser" "[Z", Cond.laysFinal "SegmentReaderModel" "SegmentReaderModel" "quantisers" "[I", Cond.laysFinal "SegmentReaderModel" "SegmentReaderModel" "hasWords" "[Z", Cond.laysFinal "SegmentReaderModel" "SegmentReaderModel" "counts" "[I", Cond.laysFinal "SegmentReaderModel" "SegmentReaderModel" "symbols" "[I", Cond.laysFinal "SegmentReaderModel" "SegmentReaderModel" "symbolMany" "[I", Cond.lays "SegmentReaderModel" "SegmentReaderModel" "scans" "I", Cond.laysFinal "SegmentReaderModel" "SegmentReaderModel" "scanRows" "[I", Cond.laysFinal "SegmentReaderModel" "SegmentReaderModel" "latest" "[I", Cond.lays "SegmentReaderModel" "SegmentReaderModel" "many" "I", Cond.laysFinal "SegmentReaderModel" "SegmentReaderModel" "which" "[I", Cond.laysFinal "SegmentReaderModel" "SegmentReaderModel" "dc" "[I", Cond.laysFinal "SegmentReaderModel" "SegmentReaderModel" "ac" "[I", Cond.laysFinal "SegmentReaderModel" "SegmentReaderModel" "nameAt" "[I", Cond.laysFinal "SegmentReaderModel" "SegmentReaderModel" "seen" "[Z", Cond.lays "SegmentReaderModel" "SegmentReaderModel" "begins" "I", Cond.lays "SegmentReaderModel" "SegmentReaderModel" "startScan" "I", Cond.lays "SegmentReaderModel" "SegmentReaderModel" "endScan" "I", Cond.lays "SegmentReaderModel" "SegmentReaderModel" "before" "I", Cond.lays "SegmentReaderModel" "SegmentReaderModel" "bits" "I"], w ∈ AW from List.forall_mem_cons.mpr ⟨tb3 (List.mem_of_getElem? (i := 85) rfl) rfl, List.forall_mem_cons.mpr ⟨tb3 (List.mem_of_getElem? (i := 87) rfl) rfl, List.forall_mem_cons.mpr ⟨tb3 (List.mem_of_getElem? (i := 89) rfl) rfl, List.forall_mem_cons.mpr ⟨tb3 (List.mem_of_getElem? (i := 91) rfl) rfl, List.forall_mem_cons.mpr ⟨tb3 (List.mem_of_getElem? (i := 93) rfl) rfl, List.forall_mem_cons.mpr ⟨tb3 (List.mem_of_getElem? (i := 95) rfl) rfl, List.forall_mem_cons.mpr ⟨tb3 (List.mem_of_getElem? (i := 97) rfl) rfl, List.forall_mem_cons.mpr ⟨tb3 (List.mem_of_getElem? (i := 99) rfl) rfl, List.forall_mem_cons.mpr ⟨tb3 (List.mem_of_getElem? (i := 101) rfl) rfl, List.forall_mem_cons.mpr ⟨tb3 (List.mem_of_getElem? (i := 103) rfl) rfl, List.forall_mem_cons.mpr ⟨tb3 (List.mem_of_getElem? (i := 105) rfl) rfl, List.forall_mem_cons.mpr ⟨tb3 (List.mem_of_getElem? (i := 107) rfl) rfl, List.forall_mem_cons.mpr ⟨tb3 (List.mem_of_getElem? (i := 109) rfl) rfl, List.forall_mem_cons.mpr ⟨tb3 (List.mem_of_getElem? (i := 111) rfl) rfl, List.forall_mem_cons.mpr ⟨tb3 (List.mem_of_getElem? (i := 113) rfl) rfl, List.forall_mem_cons.mpr ⟨tb3 (List.mem_of_getElem? (i := 115) rfl) rfl, List.forall_mem_cons.mpr ⟨tb3 (List.mem_of_getElem? (i := 117) rfl) rfl, List.forall_mem_cons.mpr ⟨tb3 (List.mem_of_getElem? (i := 119) rfl) rfl, List.forall_mem_cons.mpr ⟨tb3 (List.mem_of_getElem? (i := 121) rfl) rfl, List.forall_mem_cons.mpr ⟨tb3 (List.mem_of_getElem? (i := 123) rfl) rfl, List.forall_mem_cons.mpr ⟨tb3 (List.mem_of_getElem? (i := 125) rfl) rfl, List.forall_mem_cons.mpr ⟨tb3 (List.mem_of_getElem? (i := 127) rfl) rfl, List.forall_mem_cons.mpr ⟨tb3 (List.mem_of_getElem? (i := 129) rfl) rfl, List.forall_mem_cons.mpr ⟨tb3 (List.mem_of_getElem? (i := 131) rfl) rfl, List.forall_mem_cons.mpr ⟨tb3 (List.mem_of_getElem? (i := 133) rfl) rfl, List.forall_mem_cons.mpr ⟨tb3 (List.mem_of_getElem? (i := 135) rfl) rfl, List.forall_mem_cons.mpr ⟨tb3 (List.mem_of_getElem? (i := 137) rfl) rfl, List.forall_mem_cons.mpr ⟨tb3 (List.mem_of_getElem? (i := 139) rfl) rfl, List.forall_mem_cons.mpr ⟨tb3 (List.mem_of_getElem? (i := 141) rfl) rfl, List.forall_mem_cons.mpr ⟨tb3 (List.mem_of_getElem? (i := 143) rfl) rfl, List.forall_mem_cons.mpr ⟨tb3 (List.mem_of_getElem? (i := 145) rfl) rfl, List.forall_mem_cons.mpr ⟨tb3 (List.mem_of_getElem? (i := 147) rfl) rfl, List.forall_mem_cons.mpr ⟨tb3 (List.mem_of_getElem? (i := 149) rfl) rfl, List.forall_mem_cons.mpr ⟨tb3 (List.mem_of_getElem? (i := 151) rfl) rfl, List.forall_mem_cons.mpr ⟨tb3 (List.mem_of_getElem? (i := 153) rfl) rfl, List.forall_mem_cons.mpr ⟨tb3 (List.mem_of_getElem? (i := 155) rfl) rfl, List.forall_mem_cons.mpr ⟨tb3 (List.mem_of_getElem? (i := 157) rfl) rfl, List.forall_mem_cons.mpr ⟨tb3 (List.mem_of_getElem? (i := 159) rfl) rfl, List.forall_mem_cons.mpr ⟨tb3 (List.mem_of_getElem? (i := 161) rfl) rfl, List.forall_mem_cons.mpr ⟨tb3 (List.mem_of_getElem? (i := 163) rfl) rfl, fun _ h => absurd h List.not_mem_nil⟩⟩⟩⟩⟩⟩⟩⟩⟩⟩⟩⟩⟩⟩⟩⟩⟩⟩⟩⟩⟩⟩⟩⟩⟩⟩⟩⟩⟩⟩⟩⟩⟩⟩⟩⟩⟩⟩⟩⟩)
theorem k_se_Parser_fail : Cond.selects "SegmentReader$Parser" y_Parser_fail y_Parser_fail ∈ AW := tp1 (q := (y_Parser_fail, 11)) (List.mem_of_getElem? (i := 0) rfl)
theorem k_se_Parser_takeMarker : Cond.selects "SegmentReader$Parser" y_Parser_takeMarker y_Parser_takeMarker ∈ AW := tp1 (q := (y_Parser_takeMarker, 11)) (List.mem_of_getElem? (i := 1) rfl)
theorem k_se_Parser_canStand : Cond.selects "SegmentReader$Parser" y_Parser_canStand y_Parser_canStand ∈ AW := tp1 (q := (y_Parser_canStand, 11)) (List.mem_of_getElem? (i := 2) rfl)
theorem k_se_Parser_allBegun : Cond.selects "SegmentReader$Parser" y_Parser_allBegun y_Parser_allBegun ∈ AW := tp1 (q := (y_Parser_allBegun, 11)) (List.mem_of_getElem? (i := 3) rfl)
theorem k_se_Parser_latestOf : Cond.selects "SegmentReader$Parser" y_Parser_latestOf y_Parser_latestOf ∈ AW := tp1 (q := (y_Parser_latestOf, 11)) (List.mem_of_getElem? (i := 4) rfl)
theorem k_se_Parser_isFree : Cond.selects "SegmentReader$Parser" y_Parser_isFree y_Parser_isFree ∈ AW := tp1 (q := (y_Parser_isFree, 11)) (List.mem_of_getElem? (i := 5) rfl)
theorem k_se_Parser_takeLength : Cond.selects "SegmentReader$Parser" y_Parser_takeLength y_Parser_takeLength ∈ AW := tp1 (q := (y_Parser_takeLength, 11)) (List.mem_of_getElem? (i := 6) rfl)
theorem k_se_Parser_takePair : Cond.selects "SegmentReader$Parser" y_Parser_takePair y_Parser_takePair ∈ AW := tp1 (q := (y_Parser_takePair, 11)) (List.mem_of_getElem? (i := 7) rfl)
theorem k_se_Parser_take : Cond.selects "SegmentReader$Parser" y_Parser_take y_Parser_take ∈ AW := tp1 (q := (y_Parser_take, 11)) (List.mem_of_getElem? (i := 8) rfl)
theorem k_se_Parser_refuseTaken : Cond.selects "SegmentReader$Parser" y_Parser_refuseTaken y_Parser_refuseTaken ∈ AW := tp1 (q := (y_Parser_refuseTaken, 11)) (List.mem_of_getElem? (i := 9) rfl)
theorem k_se_Parser_readContents : Cond.selects "SegmentReader$Parser" y_Parser_readContents y_Parser_readContents ∈ AW := tp1 (q := (y_Parser_readContents, 11)) (List.mem_of_getElem? (i := 10) rfl)
theorem k_se_Parser_readQuantisers : Cond.selects "SegmentReader$Parser" y_Parser_readQuantisers y_Parser_readQuantisers ∈ AW := tp1 (q := (y_Parser_readQuantisers, 11)) (List.mem_of_getElem? (i := 11) rfl)
theorem k_se_Parser_moreContents : Cond.selects "SegmentReader$Parser" y_Parser_moreContents y_Parser_moreContents ∈ AW := tp1 (q := (y_Parser_moreContents, 11)) (List.mem_of_getElem? (i := 12) rfl)
theorem k_se_Parser_readWords : Cond.selects "SegmentReader$Parser" y_Parser_readWords y_Parser_readWords ∈ AW := tp1 (q := (y_Parser_readWords, 11)) (List.mem_of_getElem? (i := 13) rfl)
theorem k_se_Parser_takeCounts : Cond.selects "SegmentReader$Parser" y_Parser_takeCounts y_Parser_takeCounts ∈ AW := tp1 (q := (y_Parser_takeCounts, 11)) (List.mem_of_getElem? (i := 14) rfl)
theorem k_se_Parser_takeSymbols : Cond.selects "SegmentReader$Parser" y_Parser_takeSymbols y_Parser_takeSymbols ∈ AW := tp1 (q := (y_Parser_takeSymbols, 11)) (List.mem_of_getElem? (i := 15) rfl)
theorem k_se_Picture_rowOfWords : Cond.selects "SegmentReader$Picture" y_Picture_rowOfWords y_Picture_rowOfWords ∈ AW := tp2 (q := (y_Picture_rowOfWords, 12)) (List.mem_of_getElem? (i := 0) rfl)
theorem k_se_Parser_readFrame : Cond.selects "SegmentReader$Parser" y_Parser_readFrame y_Parser_readFrame ∈ AW := tp2 (q := (y_Parser_readFrame, 11)) (List.mem_of_getElem? (i := 1) rfl)
theorem k_se_Parser_readComponent : Cond.selects "SegmentReader$Parser" y_Parser_readComponent y_Parser_readComponent ∈ AW := tp2 (q := (y_Parser_readComponent, 11)) (List.mem_of_getElem? (i := 2) rfl)
theorem k_se_Parser_readScan : Cond.selects "SegmentReader$Parser" y_Parser_readScan y_Parser_readScan ∈ AW := tp2 (q := (y_Parser_readScan, 11)) (List.mem_of_getElem? (i := 3) rfl)
theorem k_se_Parser_takeScanComponents : Cond.selects "SegmentReader$Parser" y_Parser_takeScanComponents y_Parser_takeScanComponents ∈ AW := tp2 (q := (y_Parser_takeScanComponents, 11)) (List.mem_of_getElem? (i := 4) rfl)
theorem k_se_Parser_takeBits : Cond.selects "SegmentReader$Parser" y_Parser_takeBits y_Parser_takeBits ∈ AW := tp2 (q := (y_Parser_takeBits, 11)) (List.mem_of_getElem? (i := 5) rfl)
theorem k_se_Parser_checkSent : Cond.selects "SegmentReader$Parser" y_Parser_checkSent y_Parser_checkSent ∈ AW := tp2 (q := (y_Parser_checkSent, 11)) (List.mem_of_getElem? (i := 6) rfl)
theorem k_se_Parser_checkTables : Cond.selects "SegmentReader$Parser" y_Parser_checkTables y_Parser_checkTables ∈ AW := tp2 (q := (y_Parser_checkTables, 11)) (List.mem_of_getElem? (i := 7) rfl)
theorem k_se_Parser_noteSent : Cond.selects "SegmentReader$Parser" y_Parser_noteSent y_Parser_noteSent ∈ AW := tp2 (q := (y_Parser_noteSent, 11)) (List.mem_of_getElem? (i := 8) rfl)
theorem k_se_Parser_skipContents : Cond.selects "SegmentReader$Parser" y_Parser_skipContents y_Parser_skipContents ∈ AW := tp2 (q := (y_Parser_skipContents, 11)) (List.mem_of_getElem? (i := 9) rfl)
theorem k_se_Parser_readData : Cond.selects "SegmentReader$Parser" y_Parser_readData y_Parser_readData ∈ AW := tp2 (q := (y_Parser_readData, 11)) (List.mem_of_getElem? (i := 10) rfl)
theorem k_se_Parser_endData : Cond.selects "SegmentReader$Parser" y_Parser_endData y_Parser_endData ∈ AW := tp2 (q := (y_Parser_endData, 11)) (List.mem_of_getElem? (i := 11) rfl)
theorem k_se_Picture_greatest : Cond.selects "SegmentReader$Picture" y_Picture_greatest y_Picture_greatest ∈ AW := tp2 (q := (y_Picture_greatest, 12)) (List.mem_of_getElem? (i := 12) rfl)
theorem k_se_Picture_ofScanComponent : Cond.selects "SegmentReader$Picture" y_Picture_ofScanComponent y_Picture_ofScanComponent ∈ AW := tp2 (q := (y_Picture_ofScanComponent, 12)) (List.mem_of_getElem? (i := 13) rfl)
theorem k_se_Picture_wordCount : Cond.selects "SegmentReader$Picture" y_Picture_wordCount y_Picture_wordCount ∈ AW := tp2 (q := (y_Picture_wordCount, 12)) (List.mem_of_getElem? (i := 14) rfl)
theorem k_se_Model_forget : Cond.selects "SegmentReaderModel" y_Model_forget y_Model_forget ∈ AW := tp2 (q := (y_Model_forget, 40)) (List.mem_of_getElem? (i := 15) rfl)
theorem k_se_Model_readFile : Cond.selects "SegmentReaderModel" y_Model_readFile y_Model_readFile ∈ AW := tp3 (q := (y_Model_readFile, 40)) (List.mem_of_getElem? (i := 0) rfl)
theorem k_se_Model_next : Cond.selects "SegmentReaderModel" y_Model_next y_Model_next ∈ AW := tp3 (q := (y_Model_next, 40)) (List.mem_of_getElem? (i := 1) rfl)
theorem k_se_Model_lengthAt : Cond.selects "SegmentReaderModel" y_Model_lengthAt y_Model_lengthAt ∈ AW := tp3 (q := (y_Model_lengthAt, 40)) (List.mem_of_getElem? (i := 2) rfl)
theorem k_se_Model_wrong : Cond.selects "SegmentReaderModel" y_Model_wrong y_Model_wrong ∈ AW := tp3 (q := (y_Model_wrong, 40)) (List.mem_of_getElem? (i := 3) rfl)
theorem k_se_Model_byteAt : Cond.selects "SegmentReaderModel" y_Model_byteAt y_Model_byteAt ∈ AW := tp3 (q := (y_Model_byteAt, 40)) (List.mem_of_getElem? (i := 4) rfl)
theorem k_se_Model_marker : Cond.selects "SegmentReaderModel" y_Model_marker y_Model_marker ∈ AW := tp3 (q := (y_Model_marker, 40)) (List.mem_of_getElem? (i := 5) rfl)
theorem k_se_Model_isSent : Cond.selects "SegmentReaderModel" y_Model_isSent y_Model_isSent ∈ AW := tp3 (q := (y_Model_isSent, 40)) (List.mem_of_getElem? (i := 6) rfl)
theorem k_se_Model_segment1 : Cond.selects "SegmentReaderModel" y_Model_segment1 y_Model_segment1 ∈ AW := tp3 (q := (y_Model_segment1, 40)) (List.mem_of_getElem? (i := 7) rfl)
theorem k_se_Model_open : Cond.selects "SegmentReaderModel" y_Model_open y_Model_open ∈ AW := tp3 (q := (y_Model_open, 40)) (List.mem_of_getElem? (i := 8) rfl)
theorem k_se_Model_two : Cond.selects "SegmentReaderModel" y_Model_two y_Model_two ∈ AW := tp3 (q := (y_Model_two, 40)) (List.mem_of_getElem? (i := 9) rfl)
theorem k_se_Model_readQuantisers : Cond.selects "SegmentReaderModel" y_Model_readQuantisers y_Model_readQuantisers ∈ AW := tp3 (q := (y_Model_readQuantisers, 40)) (List.mem_of_getElem? (i := 10) rfl)
theorem k_se_Model_must : Cond.selects "SegmentReaderModel" y_Model_must y_Model_must ∈ AW := tp3 (q := (y_Model_must, 40)) (List.mem_of_getElem? (i := 11) rfl)
theorem k_se_Model_readWords : Cond.selects "SegmentReaderModel" y_Model_readWords y_Model_readWords ∈ AW := tp3 (q := (y_Model_readWords, 40)) (List.mem_of_getElem? (i := 12) rfl)
theorem k_se_Model_readTable : Cond.selects "SegmentReaderModel" y_Model_readTable y_Model_readTable ∈ AW := tp3 (q := (y_Model_readTable, 40)) (List.mem_of_getElem? (i := 13) rfl)
theorem k_se_Model_readFrame : Cond.selects "SegmentReaderModel" y_Model_readFrame y_Model_readFrame ∈ AW := tp3 (q := (y_Model_readFrame, 40)) (List.mem_of_getElem? (i := 14) rfl)
theorem k_se_Model_readScan : Cond.selects "SegmentReaderModel" y_Model_readScan y_Model_readScan ∈ AW := tp3 (q := (y_Model_readScan, 40)) (List.mem_of_getElem? (i := 15) rfl)
theorem k_se_Model_named : Cond.selects "SegmentReaderModel" y_Model_named y_Model_named ∈ AW := tp4 (q := (y_Model_named, 40)) (List.mem_of_getElem? (i := 0) rfl)
theorem k_se_Model_order : Cond.selects "SegmentReaderModel" y_Model_order y_Model_order ∈ AW := tp4 (q := (y_Model_order, 40)) (List.mem_of_getElem? (i := 1) rfl)
theorem k_se_Model_needs : Cond.selects "SegmentReaderModel" y_Model_needs y_Model_needs ∈ AW := tp4 (q := (y_Model_needs, 40)) (List.mem_of_getElem? (i := 2) rfl)
theorem k_se_Model_any : Cond.selects "SegmentReaderModel" y_Model_any y_Model_any ∈ AW := tp4 (q := (y_Model_any, 40)) (List.mem_of_getElem? (i := 3) rfl)
theorem k_se_Model_close : Cond.selects "SegmentReaderModel" y_Model_close y_Model_close ∈ AW := tp4 (q := (y_Model_close, 40)) (List.mem_of_getElem? (i := 4) rfl)
theorem k_se_Model_keepScan : Cond.selects "SegmentReaderModel" y_Model_keepScan y_Model_keepScan ∈ AW := tp4 (q := (y_Model_keepScan, 40)) (List.mem_of_getElem? (i := 5) rfl)
theorem k_se_Model_readData : Cond.selects "SegmentReaderModel" y_Model_readData y_Model_readData ∈ AW := tp4 (q := (y_Model_readData, 40)) (List.mem_of_getElem? (i := 6) rfl)
theorem k_in_Law : Cond.initialized "SegmentReaderLaw" ∈ AW := tb1 (List.mem_of_getElem? (i := 0) rfl) rfl
theorem k_in_Reader : Cond.initialized "SegmentReader" ∈ AW := tb1 (List.mem_of_getElem? (i := 1) rfl) rfl
theorem k_in_Bytes : Cond.initialized "SegmentReader$Bytes" ∈ AW := tb1 (List.mem_of_getElem? (i := 2) rfl) rfl
theorem k_in_Picture : Cond.initialized "SegmentReader$Picture" ∈ AW := tb1 (List.mem_of_getElem? (i := 3) rfl) rfl
theorem k_in_Numbers : Cond.initialized "SegmentReader$Numbers" ∈ AW := tb1 (List.mem_of_getElem? (i := 4) rfl) rfl
theorem k_in_Arrays : Cond.initialized "java/util/Arrays" ∈ AW := tb1 (List.mem_of_getElem? (i := 5) rfl) rfl
theorem k_in_Parser : Cond.initialized "SegmentReader$Parser" ∈ AW := tb1 (List.mem_of_getElem? (i := 6) rfl) rfl
theorem k_in_Scan : Cond.initialized "SegmentReader$Scan" ∈ AW := tb1 (List.mem_of_getElem? (i := 7) rfl) rfl
theorem k_in_Model : Cond.initialized "SegmentReaderModel" ∈ AW := tb1 (List.mem_of_getElem? (i := 8) rfl) rfl
theorem k_in_Math : Cond.initialized "java/lang/Math" ∈ AW := tb1 (List.mem_of_getElem? (i := 9) rfl) rfl
theorem k_in_java_lang_System : Cond.initialized "java/lang/System" ∈ AW := tb1 (List.mem_of_getElem? (i := 10) rfl) rfl
theorem k_cl_Law_7 : Cond.classLink "SegmentReaderLaw" 7 "SegmentReader" ∈ AW := tb1 (List.mem_of_getElem? (i := 11) rfl) rfl
theorem k_is_Reader : Cond.instantiable "SegmentReader" 3 ∈ AW := tb1 (List.mem_of_getElem? (i := 12) rfl) rfl
theorem k_ml_Law_9 : Cond.methodLink "SegmentReaderLaw" 9 y_Reader_init ∈ AW := tb1 (List.mem_of_getElem? (i := 13) rfl) rfl
theorem k_im_Reader_init : Cond.instanceMethod y_Reader_init ∈ AW := tb1 (List.mem_of_getElem? (i := 14) rfl) rfl
theorem k_cd_Reader_init : Cond.code y_Reader_init c_Reader_init 1 none ∈ AW := tb1 (List.mem_of_getElem? (i := 15) rfl) rfl
theorem k_ml_Reader_1 : Cond.methodLink "SegmentReader" 1 ⟨"java/lang/Object", "<init>", "()V"⟩ ∈ AW := tb1 (List.mem_of_getElem? (i := 16) rfl) rfl
theorem k_im_Object_init : Cond.instanceMethod ⟨"java/lang/Object", "<init>", "()V"⟩ ∈ AW := tb1 (List.mem_of_getElem? (i := 17) rfl) rfl
theorem k_cd_Object_init : Cond.code objectInit ⟨#[0xb1]⟩ 1 none ∈ AW := tb1 (List.mem_of_getElem? (i := 18) rfl) rfl
theorem k_cl_Reader_7 : Cond.classLink "SegmentReader" 7 "SegmentReader$Bytes" ∈ AW := tb1 (List.mem_of_getElem? (i := 19) rfl) rfl
theorem k_is_Bytes : Cond.instantiable "SegmentReader$Bytes" 2 ∈ AW := tb1 (List.mem_of_getElem? (i := 20) rfl) rfl
theorem k_mln_Reader_9 : Cond.methodLinkNest "SegmentReader" 9 y_Bytes_init "SegmentReader" ∈ nestL := tn1 (List.mem_of_getElem? (i := 21) rfl) rfl
theorem k_im_Bytes_init : Cond.instanceMethod y_Bytes_init ∈ AW := tb1 (List.mem_of_getElem? (i := 22) rfl) rfl
theorem k_cd_Bytes_init : Cond.code y_Bytes_init c_Bytes_init 1 none ∈ AW := tb1 (List.mem_of_getElem? (i := 23) rfl) rfl
theorem k_ml_Bytes_3 : Cond.methodLink "SegmentReader$Bytes" 3 ⟨"java/lang/Object", "<init>", "()V"⟩ ∈ AW := tb1 (List.mem_of_getElem? (i := 24) rfl) rfl
theorem k_fl_Bytes_9 : Cond.fieldLink "SegmentReader$Bytes" 9 "SegmentReader$Bytes" "held" "[B" ∈ AW := tb1 (List.mem_of_getElem? (i := 25) rfl) rfl
theorem k_fl_Bytes_15 : Cond.fieldLink "SegmentReader$Bytes" 15 "SegmentReader$Bytes" "size" "I" ∈ AW := tb1 (List.mem_of_getElem? (i := 26) rfl) rfl
theorem k_fln_Reader_34 : Cond.fieldLinkNest "SegmentReader" 34 "SegmentReader$Bytes" "size" "I" "SegmentReader" ∈ nestL := tn1 (List.mem_of_getElem? (i := 27) rfl) rfl
theorem k_fln_Parser_68 : Cond.fieldLinkNest "SegmentReader$Parser" 68 "SegmentReader$Bytes" "size" "I" "SegmentReader" ∈ nestL := tn1 (List.mem_of_getElem? (i := 28) rfl) rfl
theorem k_ac_byte : Cond.arrayClass .byte ∈ AW := tb1 (List.mem_of_getElem? (i := 34) rfl) rfl
theorem k_cl_Reader_16 : Cond.classLink "SegmentReader" 16 "SegmentReader$Picture" ∈ AW := tb1 (List.mem_of_getElem? (i := 35) rfl) rfl
theorem k_is_Picture : Cond.instantiable "SegmentReader$Picture" 12 ∈ AW := tb1 (List.mem_of_getElem? (i := 36) rfl) rfl
theorem k_ml_Reader_18 : Cond.methodLink "SegmentReader" 18 y_Picture_init ∈ AW := tb1 (List.mem_of_getElem? (i := 37) rfl) rfl
theorem k_im_Picture_init : Cond.instanceMethod y_Picture_init ∈ AW := tb1 (List.mem_of_getElem? (i := 38) rfl) rfl
theorem k_cd_Picture_init : Cond.code y_Picture_init c_Picture_init 2 none ∈ AW := tb1 (List.mem_of_getElem? (i := 39) rfl) rfl
theorem k_ml_Picture_3 : Cond.methodLink "SegmentReader$Picture" 3 ⟨"java/lang/Object", "<init>", "()V"⟩ ∈ AW := tb1 (List.mem_of_getElem? (i := 40) rfl) rfl
theorem k_cl_Picture_9 : Cond.classLink "SegmentReader$Picture" 9 "SegmentReader$Numbers" ∈ AW := tb1 (List.mem_of_getElem? (i := 41) rfl) rfl
theorem k_is_Numbers : Cond.instantiable "SegmentReader$Numbers" 2 ∈ AW := tb1 (List.mem_of_getElem? (i := 42) rfl) rfl
theorem k_mln_Picture_11 : Cond.methodLinkNest "SegmentReader$Picture" 11 y_Numbers_init "SegmentReader" ∈ nestL := tn1 (List.mem_of_getElem? (i := 43) rfl) rfl
theorem k_im_Numbers_init : Cond.instanceMethod y_Numbers_init ∈ AW := tb1 (List.mem_of_getElem? (i := 44) rfl) rfl
theorem k_cd_Numbers_init : Cond.code y_Numbers_init c_Numbers_init 1 none ∈ AW := tb1 (List.mem_of_getElem? (i := 45) rfl) rfl
theorem k_ml_Numbers_3 : Cond.methodLink "SegmentReader$Numbers" 3 ⟨"java/lang/Object", "<init>", "()V"⟩ ∈ AW := tb1 (List.mem_of_getElem? (i := 46) rfl) rfl
theorem k_fl_Numbers_9 : Cond.fieldLink "SegmentReader$Numbers" 9 "SegmentReader$Numbers" "held" "[I" ∈ AW := tb1 (List.mem_of_getElem? (i := 47) rfl) rfl
theorem k_fl_Numbers_15 : Cond.fieldLink "SegmentReader$Numbers" 15 "SegmentReader$Numbers" "size" "I" ∈ AW := tb1 (List.mem_of_getElem? (i := 48) rfl) rfl
theorem k_fln_Picture_38 : Cond.fieldLinkNest "SegmentReader$Picture" 38 "SegmentReader$Numbers" "size" "I" "SegmentReader" ∈ nestL := tn1 (List.mem_of_getElem? (i := 49) rfl) rfl
theorem k_ac_int : Cond.arrayClass .int ∈ AW := tb1 (List.mem_of_getElem? (i := 55) rfl) rfl
theorem k_ml_Picture_35 : Cond.methodLink "SegmentReader$Picture" 35 y_Picture_clear ∈ AW := tb1 (List.mem_of_getElem? (i := 56) rfl) rfl
theorem k_im_Picture_clear : Cond.instanceMethod y_Picture_clear ∈ AW := tb1 (List.mem_of_getElem? (i := 57) rfl) rfl
theorem k_se_Picture_clear : Cond.selects "SegmentReader$Picture" y_Picture_clear y_Picture_clear ∈ AW := tb1 (List.mem_of_getElem? (i := 58) rfl) rfl
theorem k_cd_Picture_clear : Cond.code y_Picture_clear c_Picture_clear 1 none ∈ AW := tb1 (List.mem_of_getElem? (i := 59) rfl) rfl
theorem k_ml_Picture_42 : Cond.methodLink "SegmentReader$Picture" 42 y_Arrays_fillI ∈ AW := tb1 (List.mem_of_getElem? (i := 60) rfl) rfl
theorem k_st_Arrays_fillI : Cond.static y_Arrays_fillI ∈ AW := tb1 (List.mem_of_getElem? (i := 61) rfl) rfl
theorem k_cd_Arrays_fillI : Cond.code y_Arrays_fillI c_Arrays_fillI 4 none ∈ AW := tb1 (List.mem_of_getElem? (i := 62) rfl) rfl
theorem k_fl_Picture_31 : Cond.fieldLink "SegmentReader$Picture" 31 "SegmentReader$Picture" "input" "LSegmentReader$Bytes;" ∈ AW := tb1 (List.mem_of_getElem? (i := 63) rfl) rfl
theorem k_fl_Picture_12 : Cond.fieldLink "SegmentReader$Picture" 12 "SegmentReader$Picture" "segments" "LSegmentReader$Numbers;" ∈ AW := tb1 (List.mem_of_getElem? (i := 64) rfl) rfl
theorem k_fl_Picture_18 : Cond.fieldLink "SegmentReader$Picture" 18 "SegmentReader$Picture" "scans" "LSegmentReader$Numbers;" ∈ AW := tb1 (List.mem_of_getElem? (i := 65) rfl) rfl
theorem k_fl_Picture_21 : Cond.fieldLink "SegmentReader$Picture" 21 "SegmentReader$Picture" "components" "[I" ∈ AW := tb1 (List.mem_of_getElem? (i := 66) rfl) rfl
theorem k_fl_Picture_25 : Cond.fieldLink "SegmentReader$Picture" 25 "SegmentReader$Picture" "quantisersAt" "[I" ∈ AW := tb1 (List.mem_of_getElem? (i := 67) rfl) rfl
theorem k_fl_Picture_28 : Cond.fieldLink "SegmentReader$Picture" 28 "SegmentReader$Picture" "wordsAt" "[I" ∈ AW := tb1 (List.mem_of_getElem? (i := 68) rfl) rfl
theorem k_fl_Picture_48 : Cond.fieldLink "SegmentReader$Picture" 48 "SegmentReader$Picture" "frameCode" "I" ∈ AW := tb1 (List.mem_of_getElem? (i := 69) rfl) rfl
theorem k_fln_Parser_106 : Cond.fieldLinkNest "SegmentReader$Parser" 106 "SegmentReader$Picture" "frameCode" "I" "SegmentReader" ∈ nestL := tn1 (List.mem_of_getElem? (i := 70) rfl) rfl
theorem k_fl_Picture_51 : Cond.fieldLink "SegmentReader$Picture" 51 "SegmentReader$Picture" "width" "I" ∈ AW := tb1 (List.mem_of_getElem? (i := 71) rfl) rfl
theorem k_fln_Parser_171 : Cond.fieldLinkNest "SegmentReader$Parser" 171 "SegmentReader$Picture" "width" "I" "SegmentReader" ∈ nestL := tn1 (List.mem_of_getElem? (i := 72) rfl) rfl
theorem k_fl_Picture_54 : Cond.fieldLink "SegmentReader$Picture" 54 "SegmentReader$Picture" "height" "I" ∈ AW := tb1 (List.mem_of_getElem? (i := 73) rfl) rfl
theorem k_fln_Parser_141 : Cond.fieldLinkNest "SegmentReader$Parser" 141 "SegmentReader$Picture" "height" "I" "SegmentReader" ∈ nestL := tn1 (List.mem_of_getElem? (i := 74) rfl) rfl
theorem k_fl_Picture_57 : Cond.fieldLink "SegmentReader$Picture" 57 "SegmentReader$Picture" "componentCount" "I" ∈ AW := tb1 (List.mem_of_getElem? (i := 75) rfl) rfl
theorem k_fln_Parser_116 : Cond.fieldLinkNest "SegmentReader$Parser" 116 "SegmentReader$Picture" "componentCount" "I" "SegmentReader" ∈ nestL := tn1 (List.mem_of_getElem? (i := 76) rfl) rfl
theorem k_fl_Picture_60 : Cond.fieldLink "SegmentReader$Picture" 60 "SegmentReader$Picture" "interval" "I" ∈ AW := tb1 (List.mem_of_getElem? (i := 77) rfl) rfl
theorem k_fln_Reader_95 : Cond.fieldLinkNest "SegmentReader" 95 "SegmentReader$Picture" "interval" "I" "SegmentReader" ∈ nestL := tn1 (List.mem_of_getElem? (i := 78) rfl) rfl
theorem k_fln_Parser_132 : Cond.fieldLinkNest "SegmentReader$Parser" 132 "SegmentReader$Picture" "interval" "I" "SegmentReader" ∈ nestL := tn1 (List.mem_of_getElem? (i := 79) rfl) rfl
theorem k_fl_Picture_63 : Cond.fieldLink "SegmentReader$Picture" 63 "SegmentReader$Picture" "end" "I" ∈ AW := tb1 (List.mem_of_getElem? (i := 80) rfl) rfl
theorem k_fln_Parser_81 : Cond.fieldLinkNest "SegmentReader$Parser" 81 "SegmentReader$Picture" "end" "I" "SegmentReader" ∈ nestL := tn1 (List.mem_of_getElem? (i := 81) rfl) rfl
theorem k_fln_Reader_98 : Cond.fieldLinkNest "SegmentReader" 98 "SegmentReader$Picture" "end" "I" "SegmentReader" ∈ nestL := tn1 (List.mem_of_getElem? (i := 82) rfl) rfl
theorem k_cl_Reader_25 : Cond.classLink "SegmentReader" 25 "SegmentReader$Parser" ∈ AW := tb1 (List.mem_of_getElem? (i := 108) rfl) rfl
theorem k_is_Parser : Cond.instantiable "SegmentReader$Parser" 11 ∈ AW := tb1 (List.mem_of_getElem? (i := 109) rfl) rfl
theorem k_ml_Reader_27 : Cond.methodLink "SegmentReader" 27 y_Parser_init ∈ AW := tb1 (List.mem_of_getElem? (i := 110) rfl) rfl
theorem k_im_Parser_init : Cond.instanceMethod y_Parser_init ∈ AW := tb1 (List.mem_of_getElem? (i := 111) rfl) rfl
theorem k_cd_Parser_init : Cond.code y_Parser_init c_Parser_init 3 none ∈ AW := tb1 (List.mem_of_getElem? (i := 112) rfl) rfl
theorem k_ml_Parser_3 : Cond.methodLink "SegmentReader$Parser" 3 ⟨"java/lang/Object", "<init>", "()V"⟩ ∈ AW := tb1 (List.mem_of_getElem? (i := 113) rfl) rfl
theorem k_cl_Parser_9 : Cond.classLink "SegmentReader$Parser" 9 "SegmentReader$Scan" ∈ AW := tb1 (List.mem_of_getElem? (i := 114) rfl) rfl
theorem k_is_Scan : Cond.instantiable "SegmentReader$Scan" 7 ∈ AW := tb1 (List.mem_of_getElem? (i := 115) rfl) rfl
theorem k_mln_Parser_11 : Cond.methodLinkNest "SegmentReader$Parser" 11 y_Scan_init "SegmentReader" ∈ nestL := tn1 (List.mem_of_getElem? (i := 116) rfl) rfl
theorem k_im_Scan_init : Cond.instanceMethod y_Scan_init ∈ AW := tb1 (List.mem_of_getElem? (i := 117) rfl) rfl
theorem k_cd_Scan_init : Cond.code y_Scan_init c_Scan_init 1 none ∈ AW := tb1 (List.mem_of_getElem? (i := 118) rfl) rfl
theorem k_ml_Scan_3 : Cond.methodLink "SegmentReader$Scan" 3 ⟨"java/lang/Object", "<init>", "()V"⟩ ∈ AW := tb1 (List.mem_of_getElem? (i := 119) rfl) rfl
theorem k_fl_Scan_15 : Cond.fieldLink "SegmentReader$Scan" 15 "SegmentReader$Scan" "contents" "I" ∈ AW := tb1 (List.mem_of_getElem? (i := 120) rfl) rfl
theorem k_fln_Parser_184 : Cond.fieldLinkNest "SegmentReader$Parser" 184 "SegmentReader$Scan" "contents" "I" "SegmentReader" ∈ nestL := tn1 (List.mem_of_getElem? (i := 121) rfl) rfl
theorem k_fln_Parser_187 : Cond.fieldLinkNest "SegmentReader$Parser" 187 "SegmentReader$Scan" "count" "I" "SegmentReader" ∈ nestL := tn1 (List.mem_of_getElem? (i := 122) rfl) rfl
theorem k_fln_Parser_193 : Cond.fieldLinkNest "SegmentReader$Parser" 193 "SegmentReader$Scan" "first" "I" "SegmentReader" ∈ nestL := tn1 (List.mem_of_getElem? (i := 123) rfl) rfl
theorem k_fln_Parser_196 : Cond.fieldLinkNest "SegmentReader$Parser" 196 "SegmentReader$Scan" "last" "I" "SegmentReader" ∈ nestL := tn1 (List.mem_of_getElem? (i := 124) rfl) rfl
theorem k_fln_Parser_217 : Cond.fieldLinkNest "SegmentReader$Parser" 217 "SegmentReader$Scan" "before" "I" "SegmentReader" ∈ nestL := tn1 (List.mem_of_getElem? (i := 125) rfl) rfl
theorem k_fln_Parser_220 : Cond.fieldLinkNest "SegmentReader$Parser" 220 "SegmentReader$Scan" "bits" "I" "SegmentReader" ∈ nestL := tn1 (List.mem_of_getElem? (i := 126) rfl) rfl
theorem k_fl_Scan_9 : Cond.fieldLink "SegmentReader$Scan" 9 "SegmentReader$Scan" "places" "[I" ∈ AW := tb1 (List.mem_of_getElem? (i := 127) rfl) rfl
theorem k_fln_Parser_214 : Cond.fieldLinkNest "SegmentReader$Parser" 214 "SegmentReader$Scan" "places" "[I" "SegmentReader" ∈ nestL := tn1 (List.mem_of_getElem? (i := 128) rfl) rfl
theorem k_fl_Parser_46 : Cond.fieldLink "SegmentReader$Parser" 46 "SegmentReader$Parser" "input" "LSegmentReader$Bytes;" ∈ AW := tb1 (List.mem_of_getElem? (i := 144) rfl) rfl
theorem k_fl_Parser_50 : Cond.fieldLink "SegmentReader$Parser" 50 "SegmentReader$Parser" "picture" "LSegmentReader$Picture;" ∈ AW := tb1 (List.mem_of_getElem? (i := 145) rfl) rfl
theorem k_fl_Parser_12 : Cond.fieldLink "SegmentReader$Parser" 12 "SegmentReader$Parser" "scan" "LSegmentReader$Scan;" ∈ AW := tb1 (List.mem_of_getElem? (i := 146) rfl) rfl
theorem k_fl_Parser_18 : Cond.fieldLink "SegmentReader$Parser" 18 "SegmentReader$Parser" "latestBits" "[I" ∈ AW := tb1 (List.mem_of_getElem? (i := 147) rfl) rfl
theorem k_fl_Parser_22 : Cond.fieldLink "SegmentReader$Parser" 22 "SegmentReader$Parser" "seen" "[J" ∈ AW := tb1 (List.mem_of_getElem? (i := 148) rfl) rfl
theorem k_fl_Parser_26 : Cond.fieldLink "SegmentReader$Parser" 26 "SegmentReader$Parser" "place" "I" ∈ AW := tb1 (List.mem_of_getElem? (i := 149) rfl) rfl
theorem k_fl_Parser_30 : Cond.fieldLink "SegmentReader$Parser" 30 "SegmentReader$Parser" "lengthPlace" "I" ∈ AW := tb1 (List.mem_of_getElem? (i := 150) rfl) rfl
theorem k_fl_Parser_33 : Cond.fieldLink "SegmentReader$Parser" 33 "SegmentReader$Parser" "contentsEnd" "I" ∈ AW := tb1 (List.mem_of_getElem? (i := 151) rfl) rfl
theorem k_fl_Parser_36 : Cond.fieldLink "SegmentReader$Parser" 36 "SegmentReader$Parser" "linesDue" "Z" ∈ AW := tb1 (List.mem_of_getElem? (i := 152) rfl) rfl
theorem k_fl_Parser_40 : Cond.fieldLink "SegmentReader$Parser" 40 "SegmentReader$Parser" "fault" "I" ∈ AW := tb1 (List.mem_of_getElem? (i := 153) rfl) rfl
theorem k_fln_Reader_83 : Cond.fieldLinkNest "SegmentReader" 83 "SegmentReader$Parser" "fault" "I" "SegmentReader" ∈ nestL := tn1 (List.mem_of_getElem? (i := 154) rfl) rfl
theorem k_fl_Parser_43 : Cond.fieldLink "SegmentReader$Parser" 43 "SegmentReader$Parser" "faultPlace" "I" ∈ AW := tb1 (List.mem_of_getElem? (i := 155) rfl) rfl
theorem k_fln_Reader_86 : Cond.fieldLinkNest "SegmentReader" 86 "SegmentReader$Parser" "faultPlace" "I" "SegmentReader" ∈ nestL := tn1 (List.mem_of_getElem? (i := 156) rfl) rfl
theorem k_ac_long : Cond.arrayClass .long ∈ AW := tb1 (List.mem_of_getElem? (i := 180) rfl) rfl
theorem k_fl_Reader_10 : Cond.fieldLink "SegmentReader" 10 "SegmentReader" "input" "LSegmentReader$Bytes;" ∈ AW := tb1 (List.mem_of_getElem? (i := 181) rfl) rfl
theorem k_fl_Reader_21 : Cond.fieldLink "SegmentReader" 21 "SegmentReader" "picture" "LSegmentReader$Picture;" ∈ AW := tb1 (List.mem_of_getElem? (i := 182) rfl) rfl
theorem k_fl_Reader_30 : Cond.fieldLink "SegmentReader" 30 "SegmentReader" "parser" "LSegmentReader$Parser;" ∈ AW := tb1 (List.mem_of_getElem? (i := 183) rfl) rfl
theorem k_ml_Law_15 : Cond.methodLink "SegmentReaderLaw" 15 y_Reader_give ∈ AW := tb1 (List.mem_of_getElem? (i := 191) rfl) rfl
theorem k_im_Reader_give : Cond.instanceMethod y_Reader_give ∈ AW := tb1 (List.mem_of_getElem? (i := 192) rfl) rfl
theorem k_se_Reader_give : Cond.selects "SegmentReader" y_Reader_give y_Reader_give ∈ AW := tb1 (List.mem_of_getElem? (i := 193) rfl) rfl
theorem k_cd_Reader_give : Cond.code y_Reader_give c_Reader_give 5 (some .boolean) ∈ AW := tb1 (List.mem_of_getElem? (i := 194) rfl) rfl
theorem k_ml_Reader_38 : Cond.methodLink "SegmentReader" 38 y_Bytes_add ∈ AW := tb1 (List.mem_of_getElem? (i := 195) rfl) rfl
theorem k_im_Bytes_add : Cond.instanceMethod y_Bytes_add ∈ AW := tb1 (List.mem_of_getElem? (i := 196) rfl) rfl
theorem k_se_Bytes_add : Cond.selects "SegmentReader$Bytes" y_Bytes_add y_Bytes_add ∈ AW := tb1 (List.mem_of_getElem? (i := 197) rfl) rfl
theorem k_cd_Bytes_add : Cond.code y_Bytes_add c_Bytes_add 2 none ∈ AW := tb1 (List.mem_of_getElem? (i := 198) rfl) rfl
theorem k_ml_Bytes_19 : Cond.methodLink "SegmentReader$Bytes" 19 y_Arrays_copyOfB ∈ AW := tb1 (List.mem_of_getElem? (i := 199) rfl) rfl
theorem k_st_Arrays_copyOfB : Cond.static y_Arrays_copyOfB ∈ AW := tb1 (List.mem_of_getElem? (i := 200) rfl) rfl
theorem k_cd_Arrays_copyOfB : Cond.code y_Arrays_copyOfB c_Arrays_copyOfB 3 (some (.array .byte)) ∈ AW := tb1 (List.mem_of_getElem? (i := 201) rfl) rfl
theorem k_ml_Arrays_310 : Cond.methodLink "java/util/Arrays" 310 ⟨"[B", "clone", "()Ljava/lang/Object;"⟩ ∈ AW := tb1 (List.mem_of_getElem? (i := 202) rfl) rfl
theorem k_na_Object_clone : Cond.native ⟨"java/lang/Object", "clone", "()Ljava/lang/Object;"⟩ ∈ AW := tb1 (List.mem_of_getElem? (i := 204) rfl) rfl
theorem k_im_Object_clone : Cond.instanceMethod ⟨"java/lang/Object", "clone", "()Ljava/lang/Object;"⟩ ∈ AW := tb1 (List.mem_of_getElem? (i := 205) rfl) rfl
theorem k_se_AB_clone : Cond.selects "[B" ⟨"[B", "clone", "()Ljava/lang/Object;"⟩ ⟨"java/lang/Object", "clone", "()Ljava/lang/Object;"⟩ ∈ AW := tb1 (List.mem_of_getElem? (i := 206) rfl) rfl
theorem k_cl_Arrays_311 : Cond.classLink "java/util/Arrays" 311 "[B" ∈ AW := tb1 (List.mem_of_getElem? (i := 208) rfl) rfl
theorem k_ml_Arrays_304 : Cond.methodLink "java/util/Arrays" 304 y_Math_min ∈ AW := tb1 (List.mem_of_getElem? (i := 209) rfl) rfl
theorem k_st_Math_min : Cond.static y_Math_min ∈ AW := tb1 (List.mem_of_getElem? (i := 210) rfl) rfl
theorem k_cd_Math_min : Cond.code y_Math_min c_Math_min 2 (some .int) ∈ AW := tb1 (List.mem_of_getElem? (i := 211) rfl) rfl
theorem k_ml_Arrays_150 : Cond.methodLink "java/util/Arrays" 150 ⟨"java/lang/System", "arraycopy", "(Ljava/lang/Object;ILjava/lang/Object;II)V"⟩ ∈ AW := tb1 (List.mem_of_getElem? (i := 212) rfl) rfl
theorem k_st_java_lang_System_arraycopy : Cond.static ⟨"java/lang/System", "arraycopy", "(Ljava/lang/Object;ILjava/lang/Object;II)V"⟩ ∈ AW := tb1 (List.mem_of_getElem? (i := 213) rfl) rfl
theorem k_na_java_lang_System_arraycopy : Cond.native ⟨"java/lang/System", "arraycopy", "(Ljava/lang/Object;ILjava/lang/Object;II)V"⟩ ∈ AW := tb1 (List.mem_of_getElem? (i := 214) rfl) rfl
theorem k_ml_Reader_42 : Cond.methodLink "SegmentReader" 42 y_Parser_forget ∈ AW := tb1 (List.mem_of_getElem? (i := 215) rfl) rfl
theorem k_im_Parser_forget : Cond.instanceMethod y_Parser_forget ∈ AW := tb1 (List.mem_of_getElem? (i := 216) rfl) rfl
theorem k_se_Parser_forget : Cond.selects "SegmentReader$Parser" y_Parser_forget y_Parser_forget ∈ AW := tb1 (List.mem_of_getElem? (i := 217) rfl) rfl
theorem k_cd_Parser_forget : Cond.code y_Parser_forget c_Parser_forget 1 none ∈ AW := tb1 (List.mem_of_getElem? (i := 218) rfl) rfl
theorem k_ml_Parser_54 : Cond.methodLink "SegmentReader$Parser" 54 y_Picture_clear ∈ AW := tb1 (List.mem_of_getElem? (i := 219) rfl) rfl
theorem k_ml_Law_20 : Cond.methodLink "SegmentReaderLaw" 20 y_Reader_wipe ∈ AW := tb1 (List.mem_of_getElem? (i := 220) rfl) rfl
theorem k_im_Reader_wipe : Cond.instanceMethod y_Reader_wipe ∈ AW := tb1 (List.mem_of_getElem? (i := 221) rfl) rfl
theorem k_se_Reader_wipe : Cond.selects "SegmentReader" y_Reader_wipe y_Reader_wipe ∈ AW := tb1 (List.mem_of_getElem? (i := 222) rfl) rfl
theorem k_cd_Reader_wipe : Cond.code y_Reader_wipe c_Reader_wipe 1 none ∈ AW := tb1 (List.mem_of_getElem? (i := 223) rfl) rfl
theorem k_ml_Law_24 : Cond.methodLink "SegmentReaderLaw" 24 y_Reader_read ∈ AW := tb1 (List.mem_of_getElem? (i := 224) rfl) rfl
theorem k_im_Reader_read : Cond.instanceMethod y_Reader_read ∈ AW := tb1 (List.mem_of_getElem? (i := 225) rfl) rfl
theorem k_se_Reader_read : Cond.selects "SegmentReader" y_Reader_read y_Reader_read ∈ AW := tb1 (List.mem_of_getElem? (i := 226) rfl) rfl
theorem k_cd_Reader_read : Cond.code y_Reader_read c_Reader_read 2 (some .int) ∈ AW := tb1 (List.mem_of_getElem? (i := 227) rfl) rfl
theorem k_ml_Reader_45 : Cond.methodLink "SegmentReader" 45 y_Parser_begin ∈ AW := tb1 (List.mem_of_getElem? (i := 228) rfl) rfl
theorem k_im_Parser_begin : Cond.instanceMethod y_Parser_begin ∈ AW := tb1 (List.mem_of_getElem? (i := 229) rfl) rfl
theorem k_se_Parser_begin : Cond.selects "SegmentReader$Parser" y_Parser_begin y_Parser_begin ∈ AW := tb1 (List.mem_of_getElem? (i := 230) rfl) rfl
theorem k_cd_Parser_begin : Cond.code y_Parser_begin c_Parser_begin 1 none ∈ AW := tb1 (List.mem_of_getElem? (i := 231) rfl) rfl
theorem k_ml_Parser_59 : Cond.methodLink "SegmentReader$Parser" 59 y_Parser_forget ∈ AW := tb1 (List.mem_of_getElem? (i := 232) rfl) rfl
theorem k_ml_Parser_62 : Cond.methodLink "SegmentReader$Parser" 62 y_Arrays_fillI ∈ AW := tb1 (List.mem_of_getElem? (i := 233) rfl) rfl
theorem k_ml_Parser_73 : Cond.methodLink "SegmentReader$Parser" 73 y_Bytes_at ∈ AW := tb1 (List.mem_of_getElem? (i := 234) rfl) rfl
theorem k_im_Bytes_at : Cond.instanceMethod y_Bytes_at ∈ AW := tb1 (List.mem_of_getElem? (i := 235) rfl) rfl
theorem k_se_Bytes_at : Cond.selects "SegmentReader$Bytes" y_Bytes_at y_Bytes_at ∈ AW := tb1 (List.mem_of_getElem? (i := 236) rfl) rfl
theorem k_cd_Bytes_at : Cond.code y_Bytes_at c_Bytes_at 2 (some .int) ∈ AW := tb1 (List.mem_of_getElem? (i := 237) rfl) rfl
theorem k_ml_Parser_77 : Cond.methodLink "SegmentReader$Parser" 77 y_Parser_fail ∈ AW := tb1 (List.mem_of_getElem? (i := 238) rfl) rfl
theorem k_im_Parser_fail : Cond.instanceMethod y_Parser_fail ∈ AW := tb2 (List.mem_of_getElem? (i := 0) rfl) rfl
theorem k_cd_Parser_fail : Cond.code y_Parser_fail c_Parser_fail 3 (some .int) ∈ AW := tb2 (List.mem_of_getElem? (i := 1) rfl) rfl
theorem k_ml_Reader_48 : Cond.methodLink "SegmentReader" 48 y_Parser_goesOn ∈ AW := tb2 (List.mem_of_getElem? (i := 2) rfl) rfl
theorem k_im_Parser_goesOn : Cond.instanceMethod y_Parser_goesOn ∈ AW := tb2 (List.mem_of_getElem? (i := 3) rfl) rfl
theorem k_se_Parser_goesOn : Cond.selects "SegmentReader$Parser" y_Parser_goesOn y_Parser_goesOn ∈ AW := tb2 (List.mem_of_getElem? (i := 4) rfl) rfl
theorem k_cd_Parser_goesOn : Cond.code y_Parser_goesOn c_Parser_goesOn 1 (some .boolean) ∈ AW := tb2 (List.mem_of_getElem? (i := 5) rfl) rfl
theorem k_ml_Reader_52 : Cond.methodLink "SegmentReader" 52 y_Parser_readNext ∈ AW := tb2 (List.mem_of_getElem? (i := 6) rfl) rfl
theorem k_im_Parser_readNext : Cond.instanceMethod y_Parser_readNext ∈ AW := tb2 (List.mem_of_getElem? (i := 7) rfl) rfl
theorem k_se_Parser_readNext : Cond.selects "SegmentReader$Parser" y_Parser_readNext y_Parser_readNext ∈ AW := tb2 (List.mem_of_getElem? (i := 8) rfl) rfl
theorem k_cd_Parser_readNext : Cond.code y_Parser_readNext c_Parser_readNext 3 none ∈ AW := tb2 (List.mem_of_getElem? (i := 9) rfl) rfl
theorem k_ml_Parser_84 : Cond.methodLink "SegmentReader$Parser" 84 y_Parser_takeMarker ∈ AW := tb2 (List.mem_of_getElem? (i := 10) rfl) rfl
theorem k_im_Parser_takeMarker : Cond.instanceMethod y_Parser_takeMarker ∈ AW := tb2 (List.mem_of_getElem? (i := 12) rfl) rfl
theorem k_cd_Parser_takeMarker : Cond.code y_Parser_takeMarker c_Parser_takeMarker 3 (some .int) ∈ AW := tb2 (List.mem_of_getElem? (i := 13) rfl) rfl
theorem k_ml_Parser_102 : Cond.methodLink "SegmentReader$Parser" 102 y_Parser_canStand ∈ AW := tb2 (List.mem_of_getElem? (i := 14) rfl) rfl
theorem k_im_Parser_canStand : Cond.instanceMethod y_Parser_canStand ∈ AW := tb2 (List.mem_of_getElem? (i := 16) rfl) rfl
theorem k_cd_Parser_canStand : Cond.code y_Parser_canStand c_Parser_canStand 2 (some .boolean) ∈ AW := tb2 (List.mem_of_getElem? (i := 17) rfl) rfl
theorem k_ml_Parser_109 : Cond.methodLink "SegmentReader$Parser" 109 y_Parser_allBegun ∈ AW := tb2 (List.mem_of_getElem? (i := 18) rfl) rfl
theorem k_im_Parser_allBegun : Cond.instanceMethod y_Parser_allBegun ∈ AW := tb2 (List.mem_of_getElem? (i := 20) rfl) rfl
theorem k_cd_Parser_allBegun : Cond.code y_Parser_allBegun c_Parser_allBegun 2 (some .boolean) ∈ AW := tb2 (List.mem_of_getElem? (i := 21) rfl) rfl
theorem k_ml_Parser_119 : Cond.methodLink "SegmentReader$Parser" 119 y_Parser_latestOf ∈ AW := tb2 (List.mem_of_getElem? (i := 22) rfl) rfl
theorem k_im_Parser_latestOf : Cond.instanceMethod y_Parser_latestOf ∈ AW := tb2 (List.mem_of_getElem? (i := 24) rfl) rfl
theorem k_cd_Parser_latestOf : Cond.code y_Parser_latestOf c_Parser_latestOf 4 (some .int) ∈ AW := tb2 (List.mem_of_getElem? (i := 25) rfl) rfl
theorem k_ml_Parser_113 : Cond.methodLink "SegmentReader$Parser" 113 y_Parser_isFree ∈ AW := tb2 (List.mem_of_getElem? (i := 26) rfl) rfl
theorem k_im_Parser_isFree : Cond.instanceMethod y_Parser_isFree ∈ AW := tb2 (List.mem_of_getElem? (i := 28) rfl) rfl
theorem k_cd_Parser_isFree : Cond.code y_Parser_isFree c_Parser_isFree 2 (some .boolean) ∈ AW := tb2 (List.mem_of_getElem? (i := 29) rfl) rfl
theorem k_ml_Parser_88 : Cond.methodLink "SegmentReader$Parser" 88 y_Parser_takeLength ∈ AW := tb2 (List.mem_of_getElem? (i := 30) rfl) rfl
theorem k_im_Parser_takeLength : Cond.instanceMethod y_Parser_takeLength ∈ AW := tb2 (List.mem_of_getElem? (i := 32) rfl) rfl
theorem k_cd_Parser_takeLength : Cond.code y_Parser_takeLength c_Parser_takeLength 2 none ∈ AW := tb2 (List.mem_of_getElem? (i := 33) rfl) rfl
theorem k_co_Parser_122 : Cond.constant "SegmentReader$Parser" 122 (65535 : Int32) ∈ AW := tb2 (List.mem_of_getElem? (i := 34) rfl) rfl
theorem k_ml_Parser_123 : Cond.methodLink "SegmentReader$Parser" 123 y_Parser_takePair ∈ AW := tb2 (List.mem_of_getElem? (i := 35) rfl) rfl
theorem k_im_Parser_takePair : Cond.instanceMethod y_Parser_takePair ∈ AW := tb2 (List.mem_of_getElem? (i := 37) rfl) rfl
theorem k_cd_Parser_takePair : Cond.code y_Parser_takePair c_Parser_takePair 6 (some .int) ∈ AW := tb2 (List.mem_of_getElem? (i := 38) rfl) rfl
theorem k_ml_Parser_147 : Cond.methodLink "SegmentReader$Parser" 147 y_Parser_take ∈ AW := tb2 (List.mem_of_getElem? (i := 39) rfl) rfl
theorem k_im_Parser_take : Cond.instanceMethod y_Parser_take ∈ AW := tb2 (List.mem_of_getElem? (i := 41) rfl) rfl
theorem k_cd_Parser_take : Cond.code y_Parser_take c_Parser_take 4 (some .int) ∈ AW := tb2 (List.mem_of_getElem? (i := 42) rfl) rfl
theorem k_ml_Parser_150 : Cond.methodLink "SegmentReader$Parser" 150 y_Parser_refuseTaken ∈ AW := tb2 (List.mem_of_getElem? (i := 43) rfl) rfl
theorem k_im_Parser_refuseTaken : Cond.instanceMethod y_Parser_refuseTaken ∈ AW := tb2 (List.mem_of_getElem? (i := 45) rfl) rfl
theorem k_cd_Parser_refuseTaken : Cond.code y_Parser_refuseTaken c_Parser_refuseTaken 1 none ∈ AW := tb2 (List.mem_of_getElem? (i := 46) rfl) rfl
theorem k_ml_Parser_91 : Cond.methodLink "SegmentReader$Parser" 91 y_Picture_addSegment ∈ AW := tb2 (List.mem_of_getElem? (i := 47) rfl) rfl
theorem k_im_Picture_addSegment : Cond.instanceMethod y_Picture_addSegment ∈ AW := tb2 (List.mem_of_getElem? (i := 48) rfl) rfl
theorem k_se_Picture_addSegment : Cond.selects "SegmentReader$Picture" y_Picture_addSegment y_Picture_addSegment ∈ AW := tb2 (List.mem_of_getElem? (i := 49) rfl) rfl
theorem k_cd_Picture_addSegment : Cond.code y_Picture_addSegment c_Picture_addSegment 3 none ∈ AW := tb2 (List.mem_of_getElem? (i := 50) rfl) rfl
theorem k_ml_Picture_66 : Cond.methodLink "SegmentReader$Picture" 66 y_Numbers_add ∈ AW := tb2 (List.mem_of_getElem? (i := 51) rfl) rfl
theorem k_im_Numbers_add : Cond.instanceMethod y_Numbers_add ∈ AW := tb2 (List.mem_of_getElem? (i := 52) rfl) rfl
theorem k_se_Numbers_add : Cond.selects "SegmentReader$Numbers" y_Numbers_add y_Numbers_add ∈ AW := tb2 (List.mem_of_getElem? (i := 53) rfl) rfl
theorem k_cd_Numbers_add : Cond.code y_Numbers_add c_Numbers_add 2 none ∈ AW := tb2 (List.mem_of_getElem? (i := 54) rfl) rfl
theorem k_ml_Numbers_19 : Cond.methodLink "SegmentReader$Numbers" 19 y_Arrays_copyOfI ∈ AW := tb2 (List.mem_of_getElem? (i := 55) rfl) rfl
theorem k_st_Arrays_copyOfI : Cond.static y_Arrays_copyOfI ∈ AW := tb2 (List.mem_of_getElem? (i := 56) rfl) rfl
theorem k_cd_Arrays_copyOfI : Cond.code y_Arrays_copyOfI c_Arrays_copyOfI 3 (some (.array .int)) ∈ AW := tb2 (List.mem_of_getElem? (i := 57) rfl) rfl
theorem k_ml_Arrays_316 : Cond.methodLink "java/util/Arrays" 316 ⟨"[I", "clone", "()Ljava/lang/Object;"⟩ ∈ AW := tb2 (List.mem_of_getElem? (i := 58) rfl) rfl
theorem k_se_AI_clone : Cond.selects "[I" ⟨"[I", "clone", "()Ljava/lang/Object;"⟩ ⟨"java/lang/Object", "clone", "()Ljava/lang/Object;"⟩ ∈ AW := tb2 (List.mem_of_getElem? (i := 60) rfl) rfl
theorem k_cl_Arrays_317 : Cond.classLink "java/util/Arrays" 317 "[I" ∈ AW := tb2 (List.mem_of_getElem? (i := 62) rfl) rfl
theorem k_ml_Parser_95 : Cond.methodLink "SegmentReader$Parser" 95 y_Parser_readContents ∈ AW := tb2 (List.mem_of_getElem? (i := 63) rfl) rfl
theorem k_im_Parser_readContents : Cond.instanceMethod y_Parser_readContents ∈ AW := tb2 (List.mem_of_getElem? (i := 65) rfl) rfl
theorem k_cd_Parser_readContents : Cond.code y_Parser_readContents c_Parser_readContents 2 none ∈ AW := tb2 (List.mem_of_getElem? (i := 66) rfl) rfl
theorem k_ml_Parser_126 : Cond.methodLink "SegmentReader$Parser" 126 y_Parser_readQuantisers ∈ AW := tb2 (List.mem_of_getElem? (i := 67) rfl) rfl
theorem k_im_Parser_readQuantisers : Cond.instanceMethod y_Parser_readQuantisers ∈ AW := tb2 (List.mem_of_getElem? (i := 69) rfl) rfl
theorem k_cd_Parser_readQuantisers : Cond.code y_Parser_readQuantisers c_Parser_readQuantisers 6 none ∈ AW := tb2 (List.mem_of_getElem? (i := 70) rfl) rfl
theorem k_ml_Parser_153 : Cond.methodLink "SegmentReader$Parser" 153 y_Picture_setQuantisers ∈ AW := tb2 (List.mem_of_getElem? (i := 71) rfl) rfl
theorem k_im_Picture_setQuantisers : Cond.instanceMethod y_Picture_setQuantisers ∈ AW := tb2 (List.mem_of_getElem? (i := 72) rfl) rfl
theorem k_se_Picture_setQuantisers : Cond.selects "SegmentReader$Picture" y_Picture_setQuantisers y_Picture_setQuantisers ∈ AW := tb2 (List.mem_of_getElem? (i := 73) rfl) rfl
theorem k_cd_Picture_setQuantisers : Cond.code y_Picture_setQuantisers c_Picture_setQuantisers 3 none ∈ AW := tb2 (List.mem_of_getElem? (i := 74) rfl) rfl
theorem k_ml_Parser_156 : Cond.methodLink "SegmentReader$Parser" 156 y_Parser_moreContents ∈ AW := tb2 (List.mem_of_getElem? (i := 75) rfl) rfl
theorem k_im_Parser_moreContents : Cond.instanceMethod y_Parser_moreContents ∈ AW := tb2 (List.mem_of_getElem? (i := 77) rfl) rfl
theorem k_cd_Parser_moreContents : Cond.code y_Parser_moreContents c_Parser_moreContents 1 (some .boolean) ∈ AW := tb2 (List.mem_of_getElem? (i := 78) rfl) rfl
theorem k_ml_Parser_129 : Cond.methodLink "SegmentReader$Parser" 129 y_Parser_readWords ∈ AW := tb2 (List.mem_of_getElem? (i := 79) rfl) rfl
theorem k_im_Parser_readWords : Cond.instanceMethod y_Parser_readWords ∈ AW := tb2 (List.mem_of_getElem? (i := 81) rfl) rfl
theorem k_cd_Parser_readWords : Cond.code y_Parser_readWords c_Parser_readWords 6 none ∈ AW := tb2 (List.mem_of_getElem? (i := 82) rfl) rfl
theorem k_ml_Parser_159 : Cond.methodLink "SegmentReader$Parser" 159 y_Parser_takeCounts ∈ AW := tb2 (List.mem_of_getElem? (i := 83) rfl) rfl
theorem k_im_Parser_takeCounts : Cond.instanceMethod y_Parser_takeCounts ∈ AW := tb2 (List.mem_of_getElem? (i := 85) rfl) rfl
theorem k_cd_Parser_takeCounts : Cond.code y_Parser_takeCounts c_Parser_takeCounts 5 (some .int) ∈ AW := tb2 (List.mem_of_getElem? (i := 86) rfl) rfl
theorem k_ml_Parser_162 : Cond.methodLink "SegmentReader$Parser" 162 y_Parser_takeSymbols ∈ AW := tb2 (List.mem_of_getElem? (i := 87) rfl) rfl
theorem k_im_Parser_takeSymbols : Cond.instanceMethod y_Parser_takeSymbols ∈ AW := tb2 (List.mem_of_getElem? (i := 89) rfl) rfl
theorem k_cd_Parser_takeSymbols : Cond.code y_Parser_takeSymbols c_Parser_takeSymbols 8 none ∈ AW := tb2 (List.mem_of_getElem? (i := 90) rfl) rfl
theorem k_ml_Parser_168 : Cond.methodLink "SegmentReader$Parser" 168 y_Arrays_fillJ ∈ AW := tb2 (List.mem_of_getElem? (i := 91) rfl) rfl
theorem k_st_Arrays_fillJ : Cond.static y_Arrays_fillJ ∈ AW := tb2 (List.mem_of_getElem? (i := 92) rfl) rfl
theorem k_cd_Arrays_fillJ : Cond.code y_Arrays_fillJ c_Arrays_fillJ 5 none ∈ AW := tb2 (List.mem_of_getElem? (i := 93) rfl) rfl
theorem k_ml_Parser_165 : Cond.methodLink "SegmentReader$Parser" 165 y_Picture_setWords ∈ AW := tb2 (List.mem_of_getElem? (i := 94) rfl) rfl
theorem k_im_Picture_setWords : Cond.instanceMethod y_Picture_setWords ∈ AW := tb2 (List.mem_of_getElem? (i := 95) rfl) rfl
theorem k_se_Picture_setWords : Cond.selects "SegmentReader$Picture" y_Picture_setWords y_Picture_setWords ∈ AW := tb2 (List.mem_of_getElem? (i := 96) rfl) rfl
theorem k_cd_Picture_setWords : Cond.code y_Picture_setWords c_Picture_setWords 4 none ∈ AW := tb2 (List.mem_of_getElem? (i := 97) rfl) rfl
theorem k_ml_Picture_113 : Cond.methodLink "SegmentReader$Picture" 113 y_Picture_rowOfWords ∈ AW := tb2 (List.mem_of_getElem? (i := 98) rfl) rfl
theorem k_im_Picture_rowOfWords : Cond.instanceMethod y_Picture_rowOfWords ∈ AW := tb2 (List.mem_of_getElem? (i := 100) rfl) rfl
theorem k_cd_Picture_rowOfWords : Cond.code y_Picture_rowOfWords c_Picture_rowOfWords 2 (some .int) ∈ AW := tb2 (List.mem_of_getElem? (i := 101) rfl) rfl
theorem k_ml_Parser_135 : Cond.methodLink "SegmentReader$Parser" 135 y_Parser_readFrame ∈ AW := tb2 (List.mem_of_getElem? (i := 102) rfl) rfl
theorem k_im_Parser_readFrame : Cond.instanceMethod y_Parser_readFrame ∈ AW := tb2 (List.mem_of_getElem? (i := 104) rfl) rfl
theorem k_cd_Parser_readFrame : Cond.code y_Parser_readFrame c_Parser_readFrame 4 none ∈ AW := tb2 (List.mem_of_getElem? (i := 105) rfl) rfl
theorem k_ml_Parser_174 : Cond.methodLink "SegmentReader$Parser" 174 y_Parser_readComponent ∈ AW := tb2 (List.mem_of_getElem? (i := 106) rfl) rfl
theorem k_im_Parser_readComponent : Cond.instanceMethod y_Parser_readComponent ∈ AW := tb2 (List.mem_of_getElem? (i := 108) rfl) rfl
theorem k_cd_Parser_readComponent : Cond.code y_Parser_readComponent c_Parser_readComponent 5 none ∈ AW := tb2 (List.mem_of_getElem? (i := 109) rfl) rfl
theorem k_ml_Parser_177 : Cond.methodLink "SegmentReader$Parser" 177 y_Picture_placeOfName ∈ AW := tb2 (List.mem_of_getElem? (i := 110) rfl) rfl
theorem k_im_Picture_placeOfName : Cond.instanceMethod y_Picture_placeOfName ∈ AW := tb2 (List.mem_of_getElem? (i := 111) rfl) rfl
theorem k_se_Picture_placeOfName : Cond.selects "SegmentReader$Picture" y_Picture_placeOfName y_Picture_placeOfName ∈ AW := tb2 (List.mem_of_getElem? (i := 112) rfl) rfl
theorem k_cd_Picture_placeOfName : Cond.code y_Picture_placeOfName c_Picture_placeOfName 3 (some .int) ∈ AW := tb2 (List.mem_of_getElem? (i := 113) rfl) rfl
theorem k_ml_Picture_84 : Cond.methodLink "SegmentReader$Picture" 84 y_Picture_ofComponent ∈ AW := tb2 (List.mem_of_getElem? (i := 114) rfl) rfl
theorem k_im_Picture_ofComponent : Cond.instanceMethod y_Picture_ofComponent ∈ AW := tb2 (List.mem_of_getElem? (i := 115) rfl) rfl
theorem k_se_Picture_ofComponent : Cond.selects "SegmentReader$Picture" y_Picture_ofComponent y_Picture_ofComponent ∈ AW := tb2 (List.mem_of_getElem? (i := 116) rfl) rfl
theorem k_cd_Picture_ofComponent : Cond.code y_Picture_ofComponent c_Picture_ofComponent 3 (some .int) ∈ AW := tb2 (List.mem_of_getElem? (i := 117) rfl) rfl
theorem k_ml_Parser_180 : Cond.methodLink "SegmentReader$Parser" 180 y_Picture_addComponent ∈ AW := tb2 (List.mem_of_getElem? (i := 118) rfl) rfl
theorem k_im_Picture_addComponent : Cond.instanceMethod y_Picture_addComponent ∈ AW := tb2 (List.mem_of_getElem? (i := 119) rfl) rfl
theorem k_se_Picture_addComponent : Cond.selects "SegmentReader$Picture" y_Picture_addComponent y_Picture_addComponent ∈ AW := tb2 (List.mem_of_getElem? (i := 120) rfl) rfl
theorem k_cd_Picture_addComponent : Cond.code y_Picture_addComponent c_Picture_addComponent 6 none ∈ AW := tb2 (List.mem_of_getElem? (i := 121) rfl) rfl
theorem k_ml_Parser_138 : Cond.methodLink "SegmentReader$Parser" 138 y_Parser_readScan ∈ AW := tb2 (List.mem_of_getElem? (i := 122) rfl) rfl
theorem k_im_Parser_readScan : Cond.instanceMethod y_Parser_readScan ∈ AW := tb2 (List.mem_of_getElem? (i := 124) rfl) rfl
theorem k_cd_Parser_readScan : Cond.code y_Parser_readScan c_Parser_readScan 1 none ∈ AW := tb2 (List.mem_of_getElem? (i := 125) rfl) rfl
theorem k_ml_Parser_190 : Cond.methodLink "SegmentReader$Parser" 190 y_Parser_takeScanComponents ∈ AW := tb2 (List.mem_of_getElem? (i := 126) rfl) rfl
theorem k_im_Parser_takeScanComponents : Cond.instanceMethod y_Parser_takeScanComponents ∈ AW := tb2 (List.mem_of_getElem? (i := 128) rfl) rfl
theorem k_cd_Parser_takeScanComponents : Cond.code y_Parser_takeScanComponents c_Parser_takeScanComponents 6 none ∈ AW := tb2 (List.mem_of_getElem? (i := 129) rfl) rfl
theorem k_ml_Parser_211 : Cond.methodLink "SegmentReader$Parser" 211 y_Picture_ofComponent ∈ AW := tb2 (List.mem_of_getElem? (i := 130) rfl) rfl
theorem k_ml_Parser_199 : Cond.methodLink "SegmentReader$Parser" 199 y_Parser_takeBits ∈ AW := tb2 (List.mem_of_getElem? (i := 131) rfl) rfl
theorem k_im_Parser_takeBits : Cond.instanceMethod y_Parser_takeBits ∈ AW := tb2 (List.mem_of_getElem? (i := 133) rfl) rfl
theorem k_cd_Parser_takeBits : Cond.code y_Parser_takeBits c_Parser_takeBits 3 none ∈ AW := tb2 (List.mem_of_getElem? (i := 134) rfl) rfl
theorem k_ml_Parser_202 : Cond.methodLink "SegmentReader$Parser" 202 y_Parser_checkSent ∈ AW := tb2 (List.mem_of_getElem? (i := 135) rfl) rfl
theorem k_im_Parser_checkSent : Cond.instanceMethod y_Parser_checkSent ∈ AW := tb2 (List.mem_of_getElem? (i := 137) rfl) rfl
theorem k_cd_Parser_checkSent : Cond.code y_Parser_checkSent c_Parser_checkSent 7 none ∈ AW := tb2 (List.mem_of_getElem? (i := 138) rfl) rfl
theorem k_ml_Parser_223 : Cond.methodLink "SegmentReader$Parser" 223 y_Scan_placeAt ∈ AW := tb2 (List.mem_of_getElem? (i := 139) rfl) rfl
theorem k_im_Scan_placeAt : Cond.instanceMethod y_Scan_placeAt ∈ AW := tb2 (List.mem_of_getElem? (i := 140) rfl) rfl
theorem k_se_Scan_placeAt : Cond.selects "SegmentReader$Scan" y_Scan_placeAt y_Scan_placeAt ∈ AW := tb2 (List.mem_of_getElem? (i := 141) rfl) rfl
theorem k_cd_Scan_placeAt : Cond.code y_Scan_placeAt c_Scan_placeAt 2 (some .int) ∈ AW := tb2 (List.mem_of_getElem? (i := 142) rfl) rfl
theorem k_ml_Parser_226 : Cond.methodLink "SegmentReader$Parser" 226 y_Scan_nameAt ∈ AW := tb2 (List.mem_of_getElem? (i := 143) rfl) rfl
theorem k_im_Scan_nameAt : Cond.instanceMethod y_Scan_nameAt ∈ AW := tb2 (List.mem_of_getElem? (i := 144) rfl) rfl
theorem k_se_Scan_nameAt : Cond.selects "SegmentReader$Scan" y_Scan_nameAt y_Scan_nameAt ∈ AW := tb2 (List.mem_of_getElem? (i := 145) rfl) rfl
theorem k_cd_Scan_nameAt : Cond.code y_Scan_nameAt c_Scan_nameAt 2 (some .int) ∈ AW := tb2 (List.mem_of_getElem? (i := 146) rfl) rfl
theorem k_ml_Parser_205 : Cond.methodLink "SegmentReader$Parser" 205 y_Parser_checkTables ∈ AW := tb2 (List.mem_of_getElem? (i := 147) rfl) rfl
theorem k_im_Parser_checkTables : Cond.instanceMethod y_Parser_checkTables ∈ AW := tb2 (List.mem_of_getElem? (i := 149) rfl) rfl
theorem k_cd_Parser_checkTables : Cond.code y_Parser_checkTables c_Parser_checkTables 5 none ∈ AW := tb2 (List.mem_of_getElem? (i := 150) rfl) rfl
theorem k_ml_Parser_229 : Cond.methodLink "SegmentReader$Parser" 229 y_Picture_hasQuantisers ∈ AW := tb2 (List.mem_of_getElem? (i := 151) rfl) rfl
theorem k_im_Picture_hasQuantisers : Cond.instanceMethod y_Picture_hasQuantisers ∈ AW := tb2 (List.mem_of_getElem? (i := 152) rfl) rfl
theorem k_se_Picture_hasQuantisers : Cond.selects "SegmentReader$Picture" y_Picture_hasQuantisers y_Picture_hasQuantisers ∈ AW := tb2 (List.mem_of_getElem? (i := 153) rfl) rfl
theorem k_cd_Picture_hasQuantisers : Cond.code y_Picture_hasQuantisers c_Picture_hasQuantisers 2 (some .boolean) ∈ AW := tb2 (List.mem_of_getElem? (i := 154) rfl) rfl
theorem k_ml_Parser_232 : Cond.methodLink "SegmentReader$Parser" 232 y_Picture_placeOfWords ∈ AW := tb2 (List.mem_of_getElem? (i := 155) rfl) rfl
theorem k_im_Picture_placeOfWords : Cond.instanceMethod y_Picture_placeOfWords ∈ AW := tb2 (List.mem_of_getElem? (i := 156) rfl) rfl
theorem k_se_Picture_placeOfWords : Cond.selects "SegmentReader$Picture" y_Picture_placeOfWords y_Picture_placeOfWords ∈ AW := tb2 (List.mem_of_getElem? (i := 157) rfl) rfl
theorem k_cd_Picture_placeOfWords : Cond.code y_Picture_placeOfWords c_Picture_placeOfWords 3 (some .int) ∈ AW := tb2 (List.mem_of_getElem? (i := 158) rfl) rfl
theorem k_ml_Parser_208 : Cond.methodLink "SegmentReader$Parser" 208 y_Parser_noteSent ∈ AW := tb2 (List.mem_of_getElem? (i := 159) rfl) rfl
theorem k_im_Parser_noteSent : Cond.instanceMethod y_Parser_noteSent ∈ AW := tb2 (List.mem_of_getElem? (i := 161) rfl) rfl
theorem k_cd_Parser_noteSent : Cond.code y_Parser_noteSent c_Parser_noteSent 5 none ∈ AW := tb2 (List.mem_of_getElem? (i := 162) rfl) rfl
theorem k_ml_Parser_144 : Cond.methodLink "SegmentReader$Parser" 144 y_Parser_skipContents ∈ AW := tb2 (List.mem_of_getElem? (i := 163) rfl) rfl
theorem k_im_Parser_skipContents : Cond.instanceMethod y_Parser_skipContents ∈ AW := tb2 (List.mem_of_getElem? (i := 165) rfl) rfl
theorem k_cd_Parser_skipContents : Cond.code y_Parser_skipContents c_Parser_skipContents 1 none ∈ AW := tb2 (List.mem_of_getElem? (i := 166) rfl) rfl
theorem k_ml_Parser_99 : Cond.methodLink "SegmentReader$Parser" 99 y_Parser_readData ∈ AW := tb2 (List.mem_of_getElem? (i := 167) rfl) rfl
theorem k_im_Parser_readData : Cond.instanceMethod y_Parser_readData ∈ AW := tb2 (List.mem_of_getElem? (i := 169) rfl) rfl
theorem k_cd_Parser_readData : Cond.code y_Parser_readData c_Parser_readData 5 none ∈ AW := tb2 (List.mem_of_getElem? (i := 170) rfl) rfl
theorem k_ml_Parser_235 : Cond.methodLink "SegmentReader$Parser" 235 y_Parser_endData ∈ AW := tb2 (List.mem_of_getElem? (i := 171) rfl) rfl
theorem k_im_Parser_endData : Cond.instanceMethod y_Parser_endData ∈ AW := tb2 (List.mem_of_getElem? (i := 173) rfl) rfl
theorem k_cd_Parser_endData : Cond.code y_Parser_endData c_Parser_endData 4 none ∈ AW := tb2 (List.mem_of_getElem? (i := 174) rfl) rfl
theorem k_ml_Parser_239 : Cond.methodLink "SegmentReader$Parser" 239 y_Picture_scanCount ∈ AW := tb2 (List.mem_of_getElem? (i := 175) rfl) rfl
theorem k_im_Picture_scanCount : Cond.instanceMethod y_Picture_scanCount ∈ AW := tb2 (List.mem_of_getElem? (i := 176) rfl) rfl
theorem k_se_Picture_scanCount : Cond.selects "SegmentReader$Picture" y_Picture_scanCount y_Picture_scanCount ∈ AW := tb2 (List.mem_of_getElem? (i := 177) rfl) rfl
theorem k_cd_Picture_scanCount : Cond.code y_Picture_scanCount c_Picture_scanCount 1 (some .int) ∈ AW := tb2 (List.mem_of_getElem? (i := 178) rfl) rfl
theorem k_ml_Parser_242 : Cond.methodLink "SegmentReader$Parser" 242 y_Picture_addScan ∈ AW := tb2 (List.mem_of_getElem? (i := 179) rfl) rfl
theorem k_im_Picture_addScan : Cond.instanceMethod y_Picture_addScan ∈ AW := tb2 (List.mem_of_getElem? (i := 180) rfl) rfl
theorem k_se_Picture_addScan : Cond.selects "SegmentReader$Picture" y_Picture_addScan y_Picture_addScan ∈ AW := tb2 (List.mem_of_getElem? (i := 181) rfl) rfl
theorem k_cd_Picture_addScan : Cond.code y_Picture_addScan c_Picture_addScan 5 none ∈ AW := tb2 (List.mem_of_getElem? (i := 182) rfl) rfl
theorem k_ml_Reader_55 : Cond.methodLink "SegmentReader" 55 y_Parser_finish ∈ AW := tb2 (List.mem_of_getElem? (i := 183) rfl) rfl
theorem k_im_Parser_finish : Cond.instanceMethod y_Parser_finish ∈ AW := tb2 (List.mem_of_getElem? (i := 184) rfl) rfl
theorem k_se_Parser_finish : Cond.selects "SegmentReader$Parser" y_Parser_finish y_Parser_finish ∈ AW := tb2 (List.mem_of_getElem? (i := 185) rfl) rfl
theorem k_cd_Parser_finish : Cond.code y_Parser_finish c_Parser_finish 1 (some .int) ∈ AW := tb2 (List.mem_of_getElem? (i := 186) rfl) rfl
theorem k_ml_Law_29 : Cond.methodLink "SegmentReaderLaw" 29 y_Reader_segment ∈ AW := tb2 (List.mem_of_getElem? (i := 187) rfl) rfl
theorem k_im_Reader_segment : Cond.instanceMethod y_Reader_segment ∈ AW := tb2 (List.mem_of_getElem? (i := 188) rfl) rfl
theorem k_se_Reader_segment : Cond.selects "SegmentReader" y_Reader_segment y_Reader_segment ∈ AW := tb2 (List.mem_of_getElem? (i := 189) rfl) rfl
theorem k_cd_Reader_segment : Cond.code y_Reader_segment c_Reader_segment 3 (some .int) ∈ AW := tb2 (List.mem_of_getElem? (i := 190) rfl) rfl
theorem k_ml_Reader_59 : Cond.methodLink "SegmentReader" 59 y_Picture_ofSegment ∈ AW := tb2 (List.mem_of_getElem? (i := 191) rfl) rfl
theorem k_im_Picture_ofSegment : Cond.instanceMethod y_Picture_ofSegment ∈ AW := tb2 (List.mem_of_getElem? (i := 192) rfl) rfl
theorem k_se_Picture_ofSegment : Cond.selects "SegmentReader$Picture" y_Picture_ofSegment y_Picture_ofSegment ∈ AW := tb2 (List.mem_of_getElem? (i := 193) rfl) rfl
theorem k_cd_Picture_ofSegment : Cond.code y_Picture_ofSegment c_Picture_ofSegment 4 (some .int) ∈ AW := tb2 (List.mem_of_getElem? (i := 194) rfl) rfl
theorem k_ml_Picture_70 : Cond.methodLink "SegmentReader$Picture" 70 y_Picture_segmentCount ∈ AW := tb2 (List.mem_of_getElem? (i := 195) rfl) rfl
theorem k_im_Picture_segmentCount : Cond.instanceMethod y_Picture_segmentCount ∈ AW := tb2 (List.mem_of_getElem? (i := 196) rfl) rfl
theorem k_se_Picture_segmentCount : Cond.selects "SegmentReader$Picture" y_Picture_segmentCount y_Picture_segmentCount ∈ AW := tb2 (List.mem_of_getElem? (i := 197) rfl) rfl
theorem k_cd_Picture_segmentCount : Cond.code y_Picture_segmentCount c_Picture_segmentCount 1 (some .int) ∈ AW := tb2 (List.mem_of_getElem? (i := 198) rfl) rfl
theorem k_ml_Picture_74 : Cond.methodLink "SegmentReader$Picture" 74 y_Numbers_at ∈ AW := tb2 (List.mem_of_getElem? (i := 199) rfl) rfl
theorem k_im_Numbers_at : Cond.instanceMethod y_Numbers_at ∈ AW := tb2 (List.mem_of_getElem? (i := 200) rfl) rfl
theorem k_se_Numbers_at : Cond.selects "SegmentReader$Numbers" y_Numbers_at y_Numbers_at ∈ AW := tb2 (List.mem_of_getElem? (i := 201) rfl) rfl
theorem k_cd_Numbers_at : Cond.code y_Numbers_at c_Numbers_at 2 (some .int) ∈ AW := tb2 (List.mem_of_getElem? (i := 202) rfl) rfl
theorem k_ml_Picture_78 : Cond.methodLink "SegmentReader$Picture" 78 y_Bytes_at ∈ AW := tb2 (List.mem_of_getElem? (i := 203) rfl) rfl
theorem k_ml_Law_34 : Cond.methodLink "SegmentReaderLaw" 34 y_Reader_frame ∈ AW := tb2 (List.mem_of_getElem? (i := 204) rfl) rfl
theorem k_im_Reader_frame : Cond.instanceMethod y_Reader_frame ∈ AW := tb2 (List.mem_of_getElem? (i := 205) rfl) rfl
theorem k_se_Reader_frame : Cond.selects "SegmentReader" y_Reader_frame y_Reader_frame ∈ AW := tb2 (List.mem_of_getElem? (i := 206) rfl) rfl
theorem k_cd_Reader_frame : Cond.code y_Reader_frame c_Reader_frame 2 (some .int) ∈ AW := tb2 (List.mem_of_getElem? (i := 207) rfl) rfl
theorem k_ml_Reader_63 : Cond.methodLink "SegmentReader" 63 y_Picture_ofFrame ∈ AW := tb2 (List.mem_of_getElem? (i := 208) rfl) rfl
theorem k_im_Picture_ofFrame : Cond.instanceMethod y_Picture_ofFrame ∈ AW := tb2 (List.mem_of_getElem? (i := 209) rfl) rfl
theorem k_se_Picture_ofFrame : Cond.selects "SegmentReader$Picture" y_Picture_ofFrame y_Picture_ofFrame ∈ AW := tb2 (List.mem_of_getElem? (i := 210) rfl) rfl
theorem k_cd_Picture_ofFrame : Cond.code y_Picture_ofFrame c_Picture_ofFrame 2 (some .int) ∈ AW := tb2 (List.mem_of_getElem? (i := 211) rfl) rfl
theorem k_ml_Picture_81 : Cond.methodLink "SegmentReader$Picture" 81 y_Picture_greatest ∈ AW := tb2 (List.mem_of_getElem? (i := 212) rfl) rfl
theorem k_im_Picture_greatest : Cond.instanceMethod y_Picture_greatest ∈ AW := tb2 (List.mem_of_getElem? (i := 214) rfl) rfl
theorem k_cd_Picture_greatest : Cond.code y_Picture_greatest c_Picture_greatest 4 (some .int) ∈ AW := tb2 (List.mem_of_getElem? (i := 215) rfl) rfl
theorem k_ml_Picture_88 : Cond.methodLink "SegmentReader$Picture" 88 y_Math_max ∈ AW := tb2 (List.mem_of_getElem? (i := 216) rfl) rfl
theorem k_st_Math_max : Cond.static y_Math_max ∈ AW := tb2 (List.mem_of_getElem? (i := 217) rfl) rfl
theorem k_cd_Math_max : Cond.code y_Math_max c_Math_max 2 (some .int) ∈ AW := tb2 (List.mem_of_getElem? (i := 218) rfl) rfl
theorem k_ml_Law_39 : Cond.methodLink "SegmentReaderLaw" 39 y_Reader_component ∈ AW := tb2 (List.mem_of_getElem? (i := 219) rfl) rfl
theorem k_im_Reader_component : Cond.instanceMethod y_Reader_component ∈ AW := tb2 (List.mem_of_getElem? (i := 220) rfl) rfl
theorem k_se_Reader_component : Cond.selects "SegmentReader" y_Reader_component y_Reader_component ∈ AW := tb2 (List.mem_of_getElem? (i := 221) rfl) rfl
theorem k_cd_Reader_component : Cond.code y_Reader_component c_Reader_component 3 (some .int) ∈ AW := tb2 (List.mem_of_getElem? (i := 222) rfl) rfl
theorem k_ml_Reader_67 : Cond.methodLink "SegmentReader" 67 y_Picture_ofComponent ∈ AW := tb2 (List.mem_of_getElem? (i := 223) rfl) rfl
theorem k_ml_Law_43 : Cond.methodLink "SegmentReaderLaw" 43 y_Reader_scan ∈ AW := tb2 (List.mem_of_getElem? (i := 224) rfl) rfl
theorem k_im_Reader_scan : Cond.instanceMethod y_Reader_scan ∈ AW := tb2 (List.mem_of_getElem? (i := 225) rfl) rfl
theorem k_se_Reader_scan : Cond.selects "SegmentReader" y_Reader_scan y_Reader_scan ∈ AW := tb2 (List.mem_of_getElem? (i := 226) rfl) rfl
theorem k_cd_Reader_scan : Cond.code y_Reader_scan c_Reader_scan 3 (some .int) ∈ AW := tb2 (List.mem_of_getElem? (i := 227) rfl) rfl
theorem k_ml_Reader_70 : Cond.methodLink "SegmentReader" 70 y_Picture_ofScan ∈ AW := tb2 (List.mem_of_getElem? (i := 228) rfl) rfl
theorem k_im_Picture_ofScan : Cond.instanceMethod y_Picture_ofScan ∈ AW := tb2 (List.mem_of_getElem? (i := 229) rfl) rfl
theorem k_se_Picture_ofScan : Cond.selects "SegmentReader$Picture" y_Picture_ofScan y_Picture_ofScan ∈ AW := tb2 (List.mem_of_getElem? (i := 230) rfl) rfl
theorem k_cd_Picture_ofScan : Cond.code y_Picture_ofScan c_Picture_ofScan 7 (some .int) ∈ AW := tb2 (List.mem_of_getElem? (i := 231) rfl) rfl
theorem k_ml_Picture_93 : Cond.methodLink "SegmentReader$Picture" 93 y_Picture_scanCount ∈ AW := tb2 (List.mem_of_getElem? (i := 232) rfl) rfl
theorem k_ml_Picture_96 : Cond.methodLink "SegmentReader$Picture" 96 y_Picture_ofScanComponent ∈ AW := tb2 (List.mem_of_getElem? (i := 233) rfl) rfl
theorem k_im_Picture_ofScanComponent : Cond.instanceMethod y_Picture_ofScanComponent ∈ AW := tb2 (List.mem_of_getElem? (i := 235) rfl) rfl
theorem k_cd_Picture_ofScanComponent : Cond.code y_Picture_ofScanComponent c_Picture_ofScanComponent 6 (some .int) ∈ AW := tb2 (List.mem_of_getElem? (i := 236) rfl) rfl
theorem k_ml_Picture_100 : Cond.methodLink "SegmentReader$Picture" 100 y_Picture_placeOfName ∈ AW := tb2 (List.mem_of_getElem? (i := 237) rfl) rfl
theorem k_ml_Law_47 : Cond.methodLink "SegmentReaderLaw" 47 y_Reader_data ∈ AW := tb2 (List.mem_of_getElem? (i := 238) rfl) rfl
theorem k_im_Reader_data : Cond.instanceMethod y_Reader_data ∈ AW := tb2 (List.mem_of_getElem? (i := 239) rfl) rfl
theorem k_se_Reader_data : Cond.selects "SegmentReader" y_Reader_data y_Reader_data ∈ AW := tb3 (List.mem_of_getElem? (i := 0) rfl) rfl
theorem k_cd_Reader_data : Cond.code y_Reader_data c_Reader_data 3 (some .int) ∈ AW := tb3 (List.mem_of_getElem? (i := 1) rfl) rfl
theorem k_ml_Reader_73 : Cond.methodLink "SegmentReader" 73 y_Picture_dataByte ∈ AW := tb3 (List.mem_of_getElem? (i := 2) rfl) rfl
theorem k_im_Picture_dataByte : Cond.instanceMethod y_Picture_dataByte ∈ AW := tb3 (List.mem_of_getElem? (i := 3) rfl) rfl
theorem k_se_Picture_dataByte : Cond.selects "SegmentReader$Picture" y_Picture_dataByte y_Picture_dataByte ∈ AW := tb3 (List.mem_of_getElem? (i := 4) rfl) rfl
theorem k_cd_Picture_dataByte : Cond.code y_Picture_dataByte c_Picture_dataByte 8 (some .int) ∈ AW := tb3 (List.mem_of_getElem? (i := 5) rfl) rfl
theorem k_ml_Law_51 : Cond.methodLink "SegmentReaderLaw" 51 y_Reader_quantiser ∈ AW := tb3 (List.mem_of_getElem? (i := 6) rfl) rfl
theorem k_im_Reader_quantiser : Cond.instanceMethod y_Reader_quantiser ∈ AW := tb3 (List.mem_of_getElem? (i := 7) rfl) rfl
theorem k_se_Reader_quantiser : Cond.selects "SegmentReader" y_Reader_quantiser y_Reader_quantiser ∈ AW := tb3 (List.mem_of_getElem? (i := 8) rfl) rfl
theorem k_cd_Reader_quantiser : Cond.code y_Reader_quantiser c_Reader_quantiser 3 (some .int) ∈ AW := tb3 (List.mem_of_getElem? (i := 9) rfl) rfl
theorem k_ml_Reader_76 : Cond.methodLink "SegmentReader" 76 y_Picture_quantiserValue ∈ AW := tb3 (List.mem_of_getElem? (i := 10) rfl) rfl
theorem k_im_Picture_quantiserValue : Cond.instanceMethod y_Picture_quantiserValue ∈ AW := tb3 (List.mem_of_getElem? (i := 11) rfl) rfl
theorem k_se_Picture_quantiserValue : Cond.selects "SegmentReader$Picture" y_Picture_quantiserValue y_Picture_quantiserValue ∈ AW := tb3 (List.mem_of_getElem? (i := 12) rfl) rfl
theorem k_cd_Picture_quantiserValue : Cond.code y_Picture_quantiserValue c_Picture_quantiserValue 3 (some .int) ∈ AW := tb3 (List.mem_of_getElem? (i := 13) rfl) rfl
theorem k_ml_Picture_103 : Cond.methodLink "SegmentReader$Picture" 103 y_Picture_hasQuantisers ∈ AW := tb3 (List.mem_of_getElem? (i := 14) rfl) rfl
theorem k_ml_Law_55 : Cond.methodLink "SegmentReaderLaw" 55 y_Reader_word ∈ AW := tb3 (List.mem_of_getElem? (i := 15) rfl) rfl
theorem k_im_Reader_word : Cond.instanceMethod y_Reader_word ∈ AW := tb3 (List.mem_of_getElem? (i := 16) rfl) rfl
theorem k_se_Reader_word : Cond.selects "SegmentReader" y_Reader_word y_Reader_word ∈ AW := tb3 (List.mem_of_getElem? (i := 17) rfl) rfl
theorem k_cd_Reader_word : Cond.code y_Reader_word c_Reader_word 4 (some .int) ∈ AW := tb3 (List.mem_of_getElem? (i := 18) rfl) rfl
theorem k_ml_Reader_79 : Cond.methodLink "SegmentReader" 79 y_Picture_ofWords ∈ AW := tb3 (List.mem_of_getElem? (i := 19) rfl) rfl
theorem k_im_Picture_ofWords : Cond.instanceMethod y_Picture_ofWords ∈ AW := tb3 (List.mem_of_getElem? (i := 20) rfl) rfl
theorem k_se_Picture_ofWords : Cond.selects "SegmentReader$Picture" y_Picture_ofWords y_Picture_ofWords ∈ AW := tb3 (List.mem_of_getElem? (i := 21) rfl) rfl
theorem k_cd_Picture_ofWords : Cond.code y_Picture_ofWords c_Picture_ofWords 5 (some .int) ∈ AW := tb3 (List.mem_of_getElem? (i := 22) rfl) rfl
theorem k_ml_Picture_107 : Cond.methodLink "SegmentReader$Picture" 107 y_Picture_placeOfWords ∈ AW := tb3 (List.mem_of_getElem? (i := 23) rfl) rfl
theorem k_ml_Picture_110 : Cond.methodLink "SegmentReader$Picture" 110 y_Picture_wordCount ∈ AW := tb3 (List.mem_of_getElem? (i := 24) rfl) rfl
theorem k_im_Picture_wordCount : Cond.instanceMethod y_Picture_wordCount ∈ AW := tb3 (List.mem_of_getElem? (i := 26) rfl) rfl
theorem k_cd_Picture_wordCount : Cond.code y_Picture_wordCount c_Picture_wordCount 4 (some .int) ∈ AW := tb3 (List.mem_of_getElem? (i := 27) rfl) rfl
theorem k_ml_Law_60 : Cond.methodLink "SegmentReaderLaw" 60 y_Reader_look ∈ AW := tb3 (List.mem_of_getElem? (i := 28) rfl) rfl
theorem k_im_Reader_look : Cond.instanceMethod y_Reader_look ∈ AW := tb3 (List.mem_of_getElem? (i := 29) rfl) rfl
theorem k_se_Reader_look : Cond.selects "SegmentReader" y_Reader_look y_Reader_look ∈ AW := tb3 (List.mem_of_getElem? (i := 30) rfl) rfl
theorem k_cd_Reader_look : Cond.code y_Reader_look c_Reader_look 2 (some .int) ∈ AW := tb3 (List.mem_of_getElem? (i := 31) rfl) rfl
theorem k_ml_Reader_89 : Cond.methodLink "SegmentReader" 89 y_Picture_segmentCount ∈ AW := tb3 (List.mem_of_getElem? (i := 32) rfl) rfl
theorem k_ml_Reader_92 : Cond.methodLink "SegmentReader" 92 y_Picture_scanCount ∈ AW := tb3 (List.mem_of_getElem? (i := 33) rfl) rfl
theorem k_cl_Law_10 : Cond.classLink "SegmentReaderLaw" 10 "SegmentReaderModel" ∈ AW := tb3 (List.mem_of_getElem? (i := 34) rfl) rfl
theorem k_is_Model : Cond.instantiable "SegmentReaderModel" 40 ∈ AW := tb3 (List.mem_of_getElem? (i := 35) rfl) rfl
theorem k_ml_Law_12 : Cond.methodLink "SegmentReaderLaw" 12 y_Model_init ∈ AW := tb3 (List.mem_of_getElem? (i := 36) rfl) rfl
theorem k_im_Model_init : Cond.instanceMethod y_Model_init ∈ AW := tb3 (List.mem_of_getElem? (i := 37) rfl) rfl
theorem k_cd_Model_init : Cond.code y_Model_init c_Model_init 1 none ∈ AW := tb3 (List.mem_of_getElem? (i := 38) rfl) rfl
theorem k_ml_Model_1 : Cond.methodLink "SegmentReaderModel" 1 ⟨"java/lang/Object", "<init>", "()V"⟩ ∈ AW := tb3 (List.mem_of_getElem? (i := 39) rfl) rfl
theorem k_co_Model_52 : Cond.constant "SegmentReaderModel" 52 (61440 : Int32) ∈ AW := tb3 (List.mem_of_getElem? (i := 40) rfl) rfl
theorem k_ml_Model_74 : Cond.methodLink "SegmentReaderModel" 74 y_Model_forget ∈ AW := tb3 (List.mem_of_getElem? (i := 41) rfl) rfl
theorem k_im_Model_forget : Cond.instanceMethod y_Model_forget ∈ AW := tb3 (List.mem_of_getElem? (i := 43) rfl) rfl
theorem k_cd_Model_forget : Cond.code y_Model_forget c_Model_forget 2 none ∈ AW := tb3 (List.mem_of_getElem? (i := 44) rfl) rfl
theorem k_fl_Model_77 : Cond.fieldLink "SegmentReaderModel" 77 "SegmentReaderModel" "thrown" "I" ∈ AW := tb3 (List.mem_of_getElem? (i := 45) rfl) rfl
theorem k_fl_Model_7 : Cond.fieldLink "SegmentReaderModel" 7 "SegmentReaderModel" "input" "[B" ∈ AW := tb3 (List.mem_of_getElem? (i := 46) rfl) rfl
theorem k_fl_Model_104 : Cond.fieldLink "SegmentReaderModel" 104 "SegmentReaderModel" "size" "I" ∈ AW := tb3 (List.mem_of_getElem? (i := 47) rfl) rfl
theorem k_fl_Model_107 : Cond.fieldLink "SegmentReaderModel" 107 "SegmentReaderModel" "fault" "I" ∈ AW := tb3 (List.mem_of_getElem? (i := 48) rfl) rfl
theorem k_fl_Model_13 : Cond.fieldLink "SegmentReaderModel" 13 "SegmentReaderModel" "place" "I" ∈ AW := tb3 (List.mem_of_getElem? (i := 49) rfl) rfl
theorem k_fl_Model_113 : Cond.fieldLink "SegmentReaderModel" 113 "SegmentReaderModel" "p" "I" ∈ AW := tb3 (List.mem_of_getElem? (i := 50) rfl) rfl
theorem k_fl_Model_110 : Cond.fieldLink "SegmentReaderModel" 110 "SegmentReaderModel" "end" "I" ∈ AW := tb3 (List.mem_of_getElem? (i := 51) rfl) rfl
theorem k_fl_Model_134 : Cond.fieldLink "SegmentReaderModel" 134 "SegmentReaderModel" "first" "I" ∈ AW := tb3 (List.mem_of_getElem? (i := 52) rfl) rfl
theorem k_fl_Model_80 : Cond.fieldLink "SegmentReaderModel" 80 "SegmentReaderModel" "ends" "I" ∈ AW := tb3 (List.mem_of_getElem? (i := 53) rfl) rfl
theorem k_fl_Model_83 : Cond.fieldLink "SegmentReaderModel" 83 "SegmentReaderModel" "segments" "I" ∈ AW := tb3 (List.mem_of_getElem? (i := 54) rfl) rfl
theorem k_fl_Model_17 : Cond.fieldLink "SegmentReaderModel" 17 "SegmentReaderModel" "segmentRows" "[I" ∈ AW := tb3 (List.mem_of_getElem? (i := 55) rfl) rfl
theorem k_fl_Model_86 : Cond.fieldLink "SegmentReaderModel" 86 "SegmentReaderModel" "frameCode" "I" ∈ AW := tb3 (List.mem_of_getElem? (i := 56) rfl) rfl
theorem k_fl_Model_89 : Cond.fieldLink "SegmentReaderModel" 89 "SegmentReaderModel" "width" "I" ∈ AW := tb3 (List.mem_of_getElem? (i := 57) rfl) rfl
theorem k_fl_Model_92 : Cond.fieldLink "SegmentReaderModel" 92 "SegmentReaderModel" "height" "I" ∈ AW := tb3 (List.mem_of_getElem? (i := 58) rfl) rfl
theorem k_fl_Model_95 : Cond.fieldLink "SegmentReaderModel" 95 "SegmentReaderModel" "components" "I" ∈ AW := tb3 (List.mem_of_getElem? (i := 59) rfl) rfl
theorem k_fl_Model_21 : Cond.fieldLink "SegmentReaderModel" 21 "SegmentReaderModel" "names" "[I" ∈ AW := tb3 (List.mem_of_getElem? (i := 60) rfl) rfl
theorem k_fl_Model_24 : Cond.fieldLink "SegmentReaderModel" 24 "SegmentReaderModel" "across" "[I" ∈ AW := tb3 (List.mem_of_getElem? (i := 61) rfl) rfl
theorem k_fl_Model_27 : Cond.fieldLink "SegmentReaderModel" 27 "SegmentReaderModel" "down" "[I" ∈ AW := tb3 (List.mem_of_getElem? (i := 62) rfl) rfl
theorem k_fl_Model_30 : Cond.fieldLink "SegmentReaderModel" 30 "SegmentReaderModel" "tables" "[I" ∈ AW := tb3 (List.mem_of_getElem? (i := 63) rfl) rfl
theorem k_fl_Model_98 : Cond.fieldLink "SegmentReaderModel" 98 "SegmentReaderModel" "interval" "I" ∈ AW := tb3 (List.mem_of_getElem? (i := 64) rfl) rfl
theorem k_fl_Model_33 : Cond.fieldLink "SegmentReaderModel" 33 "SegmentReaderModel" "hasQuantiser" "[Z" ∈ AW := tb3 (List.mem_of_getElem? (i := 65) rfl) rfl
theorem k_fl_Model_37 : Cond.fieldLink "SegmentReaderModel" 37 "SegmentReaderModel" "quantisers" "[I" ∈ AW := tb3 (List.mem_of_getElem? (i := 66) rfl) rfl
theorem k_fl_Model_40 : Cond.fieldLink "SegmentReaderModel" 40 "SegmentReaderModel" "hasWords" "[Z" ∈ AW := tb3 (List.mem_of_getElem? (i := 67) rfl) rfl
theorem k_fl_Model_43 : Cond.fieldLink "SegmentReaderModel" 43 "SegmentReaderModel" "counts" "[I" ∈ AW := tb3 (List.mem_of_getElem? (i := 68) rfl) rfl
theorem k_fl_Model_46 : Cond.fieldLink "SegmentReaderModel" 46 "SegmentReaderModel" "symbols" "[I" ∈ AW := tb3 (List.mem_of_getElem? (i := 69) rfl) rfl
theorem k_fl_Model_49 : Cond.fieldLink "SegmentReaderModel" 49 "SegmentReaderModel" "symbolMany" "[I" ∈ AW := tb3 (List.mem_of_getElem? (i := 70) rfl) rfl
theorem k_fl_Model_101 : Cond.fieldLink "SegmentReaderModel" 101 "SegmentReaderModel" "scans" "I" ∈ AW := tb3 (List.mem_of_getElem? (i := 71) rfl) rfl
theorem k_fl_Model_53 : Cond.fieldLink "SegmentReaderModel" 53 "SegmentReaderModel" "scanRows" "[I" ∈ AW := tb3 (List.mem_of_getElem? (i := 72) rfl) rfl
theorem k_fl_Model_56 : Cond.fieldLink "SegmentReaderModel" 56 "SegmentReaderModel" "latest" "[I" ∈ AW := tb3 (List.mem_of_getElem? (i := 73) rfl) rfl
theorem k_fl_Model_150 : Cond.fieldLink "SegmentReaderModel" 150 "SegmentReaderModel" "many" "I" ∈ AW := tb3 (List.mem_of_getElem? (i := 74) rfl) rfl
theorem k_fl_Model_59 : Cond.fieldLink "SegmentReaderModel" 59 "SegmentReaderModel" "which" "[I" ∈ AW := tb3 (List.mem_of_getElem? (i := 75) rfl) rfl
theorem k_fl_Model_62 : Cond.fieldLink "SegmentReaderModel" 62 "SegmentReaderModel" "dc" "[I" ∈ AW := tb3 (List.mem_of_getElem? (i := 76) rfl) rfl
theorem k_fl_Model_65 : Cond.fieldLink "SegmentReaderModel" 65 "SegmentReaderModel" "ac" "[I" ∈ AW := tb3 (List.mem_of_getElem? (i := 77) rfl) rfl
theorem k_fl_Model_68 : Cond.fieldLink "SegmentReaderModel" 68 "SegmentReaderModel" "nameAt" "[I" ∈ AW := tb3 (List.mem_of_getElem? (i := 78) rfl) rfl
theorem k_fl_Model_71 : Cond.fieldLink "SegmentReaderModel" 71 "SegmentReaderModel" "seen" "[Z" ∈ AW := tb3 (List.mem_of_getElem? (i := 79) rfl) rfl
theorem k_fl_Model_131 : Cond.fieldLink "SegmentReaderModel" 131 "SegmentReaderModel" "begins" "I" ∈ AW := tb3 (List.mem_of_getElem? (i := 80) rfl) rfl
theorem k_fl_Model_156 : Cond.fieldLink "SegmentReaderModel" 156 "SegmentReaderModel" "startScan" "I" ∈ AW := tb3 (List.mem_of_getElem? (i := 81) rfl) rfl
theorem k_fl_Model_159 : Cond.fieldLink "SegmentReaderModel" 159 "SegmentReaderModel" "endScan" "I" ∈ AW := tb3 (List.mem_of_getElem? (i := 82) rfl) rfl
theorem k_fl_Model_162 : Cond.fieldLink "SegmentReaderModel" 162 "SegmentReaderModel" "before" "I" ∈ AW := tb3 (List.mem_of_getElem? (i := 83) rfl) rfl
theorem k_fl_Model_165 : Cond.fieldLink "SegmentReaderModel" 165 "SegmentReaderModel" "bits" "I" ∈ AW := tb3 (List.mem_of_getElem? (i := 84) rfl) rfl
theorem k_ac_boolean : Cond.arrayClass .boolean ∈ AW := tb3 (List.mem_of_getElem? (i := 166) rfl) rfl
theorem k_ml_Law_19 : Cond.methodLink "SegmentReaderLaw" 19 y_Model_give ∈ AW := tb3 (List.mem_of_getElem? (i := 167) rfl) rfl
theorem k_im_Model_give : Cond.instanceMethod y_Model_give ∈ AW := tb3 (List.mem_of_getElem? (i := 168) rfl) rfl
theorem k_se_Model_give : Cond.selects "SegmentReaderModel" y_Model_give y_Model_give ∈ AW := tb3 (List.mem_of_getElem? (i := 169) rfl) rfl
theorem k_cd_Model_give : Cond.code y_Model_give c_Model_give 5 (some .boolean) ∈ AW := tb3 (List.mem_of_getElem? (i := 170) rfl) rfl
theorem k_ml_Law_23 : Cond.methodLink "SegmentReaderLaw" 23 y_Model_wipe ∈ AW := tb3 (List.mem_of_getElem? (i := 171) rfl) rfl
theorem k_im_Model_wipe : Cond.instanceMethod y_Model_wipe ∈ AW := tb3 (List.mem_of_getElem? (i := 172) rfl) rfl
theorem k_se_Model_wipe : Cond.selects "SegmentReaderModel" y_Model_wipe y_Model_wipe ∈ AW := tb3 (List.mem_of_getElem? (i := 173) rfl) rfl
theorem k_cd_Model_wipe : Cond.code y_Model_wipe c_Model_wipe 1 none ∈ AW := tb3 (List.mem_of_getElem? (i := 174) rfl) rfl
theorem k_ml_Law_28 : Cond.methodLink "SegmentReaderLaw" 28 y_Model_read ∈ AW := tb3 (List.mem_of_getElem? (i := 175) rfl) rfl
theorem k_im_Model_read : Cond.instanceMethod y_Model_read ∈ AW := tb3 (List.mem_of_getElem? (i := 176) rfl) rfl
theorem k_se_Model_read : Cond.selects "SegmentReaderModel" y_Model_read y_Model_read ∈ AW := tb3 (List.mem_of_getElem? (i := 177) rfl) rfl
theorem k_cd_Model_read : Cond.code y_Model_read c_Model_read 1 (some .int) ∈ AW := tb3 (List.mem_of_getElem? (i := 178) rfl) rfl
theorem k_ml_Model_213 : Cond.methodLink "SegmentReaderModel" 213 y_Model_readFile ∈ AW := tb3 (List.mem_of_getElem? (i := 179) rfl) rfl
theorem k_im_Model_readFile : Cond.instanceMethod y_Model_readFile ∈ AW := tb3 (List.mem_of_getElem? (i := 181) rfl) rfl
theorem k_cd_Model_readFile : Cond.code y_Model_readFile c_Model_readFile 9 none ∈ AW := tb3 (List.mem_of_getElem? (i := 182) rfl) rfl
theorem k_ml_Model_128 : Cond.methodLink "SegmentReaderModel" 128 y_Model_next ∈ AW := tb3 (List.mem_of_getElem? (i := 183) rfl) rfl
theorem k_im_Model_next : Cond.instanceMethod y_Model_next ∈ AW := tb3 (List.mem_of_getElem? (i := 185) rfl) rfl
theorem k_cd_Model_next : Cond.code y_Model_next c_Model_next 1 (some .int) ∈ AW := tb3 (List.mem_of_getElem? (i := 186) rfl) rfl
theorem k_ml_Model_116 : Cond.methodLink "SegmentReaderModel" 116 y_Model_lengthAt ∈ AW := tb3 (List.mem_of_getElem? (i := 187) rfl) rfl
theorem k_im_Model_lengthAt : Cond.instanceMethod y_Model_lengthAt ∈ AW := tb3 (List.mem_of_getElem? (i := 189) rfl) rfl
theorem k_cd_Model_lengthAt : Cond.code y_Model_lengthAt c_Model_lengthAt 1 (some .int) ∈ AW := tb3 (List.mem_of_getElem? (i := 190) rfl) rfl
theorem k_ml_Model_120 : Cond.methodLink "SegmentReaderModel" 120 y_Model_wrong ∈ AW := tb3 (List.mem_of_getElem? (i := 191) rfl) rfl
theorem k_im_Model_wrong : Cond.instanceMethod y_Model_wrong ∈ AW := tb3 (List.mem_of_getElem? (i := 193) rfl) rfl
theorem k_cd_Model_wrong : Cond.code y_Model_wrong c_Model_wrong 3 (some .int) ∈ AW := tb3 (List.mem_of_getElem? (i := 194) rfl) rfl
theorem k_ml_Model_124 : Cond.methodLink "SegmentReaderModel" 124 y_Model_byteAt ∈ AW := tb3 (List.mem_of_getElem? (i := 195) rfl) rfl
theorem k_im_Model_byteAt : Cond.instanceMethod y_Model_byteAt ∈ AW := tb3 (List.mem_of_getElem? (i := 197) rfl) rfl
theorem k_cd_Model_byteAt : Cond.code y_Model_byteAt c_Model_byteAt 2 (some .int) ∈ AW := tb3 (List.mem_of_getElem? (i := 198) rfl) rfl
theorem k_ml_Model_178 : Cond.methodLink "SegmentReaderModel" 178 y_Model_marker ∈ AW := tb3 (List.mem_of_getElem? (i := 199) rfl) rfl
theorem k_im_Model_marker : Cond.instanceMethod y_Model_marker ∈ AW := tb3 (List.mem_of_getElem? (i := 201) rfl) rfl
theorem k_cd_Model_marker : Cond.code y_Model_marker c_Model_marker 2 (some .int) ∈ AW := tb3 (List.mem_of_getElem? (i := 202) rfl) rfl
theorem k_ml_Model_181 : Cond.methodLink "SegmentReaderModel" 181 y_Model_isSent ∈ AW := tb3 (List.mem_of_getElem? (i := 203) rfl) rfl
theorem k_im_Model_isSent : Cond.instanceMethod y_Model_isSent ∈ AW := tb3 (List.mem_of_getElem? (i := 205) rfl) rfl
theorem k_cd_Model_isSent : Cond.code y_Model_isSent c_Model_isSent 3 (some .boolean) ∈ AW := tb3 (List.mem_of_getElem? (i := 206) rfl) rfl
theorem k_ml_Model_185 : Cond.methodLink "SegmentReaderModel" 185 y_Model_segment1 ∈ AW := tb3 (List.mem_of_getElem? (i := 207) rfl) rfl
theorem k_im_Model_segment1 : Cond.instanceMethod y_Model_segment1 ∈ AW := tb3 (List.mem_of_getElem? (i := 209) rfl) rfl
theorem k_cd_Model_segment1 : Cond.code y_Model_segment1 c_Model_segment1 3 (some .boolean) ∈ AW := tb3 (List.mem_of_getElem? (i := 210) rfl) rfl
theorem k_ml_Model_189 : Cond.methodLink "SegmentReaderModel" 189 y_Model_open ∈ AW := tb3 (List.mem_of_getElem? (i := 211) rfl) rfl
theorem k_im_Model_open : Cond.instanceMethod y_Model_open ∈ AW := tb3 (List.mem_of_getElem? (i := 213) rfl) rfl
theorem k_cd_Model_open : Cond.code y_Model_open c_Model_open 3 none ∈ AW := tb3 (List.mem_of_getElem? (i := 214) rfl) rfl
theorem k_ml_Model_137 : Cond.methodLink "SegmentReaderModel" 137 y_Model_two ∈ AW := tb3 (List.mem_of_getElem? (i := 215) rfl) rfl
theorem k_im_Model_two : Cond.instanceMethod y_Model_two ∈ AW := tb3 (List.mem_of_getElem? (i := 217) rfl) rfl
theorem k_cd_Model_two : Cond.code y_Model_two c_Model_two 2 (some .int) ∈ AW := tb3 (List.mem_of_getElem? (i := 218) rfl) rfl
theorem k_ml_Model_192 : Cond.methodLink "SegmentReaderModel" 192 y_Model_readQuantisers ∈ AW := tb3 (List.mem_of_getElem? (i := 219) rfl) rfl
theorem k_im_Model_readQuantisers : Cond.instanceMethod y_Model_readQuantisers ∈ AW := tb3 (List.mem_of_getElem? (i := 221) rfl) rfl
theorem k_cd_Model_readQuantisers : Cond.code y_Model_readQuantisers c_Model_readQuantisers 5 none ∈ AW := tb3 (List.mem_of_getElem? (i := 222) rfl) rfl
theorem k_ml_Model_140 : Cond.methodLink "SegmentReaderModel" 140 y_Model_must ∈ AW := tb3 (List.mem_of_getElem? (i := 223) rfl) rfl
theorem k_im_Model_must : Cond.instanceMethod y_Model_must ∈ AW := tb3 (List.mem_of_getElem? (i := 225) rfl) rfl
theorem k_cd_Model_must : Cond.code y_Model_must c_Model_must 3 none ∈ AW := tb3 (List.mem_of_getElem? (i := 226) rfl) rfl
theorem k_ml_Model_195 : Cond.methodLink "SegmentReaderModel" 195 y_Model_readWords ∈ AW := tb3 (List.mem_of_getElem? (i := 227) rfl) rfl
theorem k_im_Model_readWords : Cond.instanceMethod y_Model_readWords ∈ AW := tb3 (List.mem_of_getElem? (i := 229) rfl) rfl
theorem k_cd_Model_readWords : Cond.code y_Model_readWords c_Model_readWords 4 none ∈ AW := tb3 (List.mem_of_getElem? (i := 230) rfl) rfl
theorem k_ml_Model_144 : Cond.methodLink "SegmentReaderModel" 144 y_Model_readTable ∈ AW := tb3 (List.mem_of_getElem? (i := 231) rfl) rfl
theorem k_im_Model_readTable : Cond.instanceMethod y_Model_readTable ∈ AW := tb3 (List.mem_of_getElem? (i := 233) rfl) rfl
theorem k_cd_Model_readTable : Cond.code y_Model_readTable c_Model_readTable 7 none ∈ AW := tb3 (List.mem_of_getElem? (i := 234) rfl) rfl
theorem k_co_Model_148 : Cond.constantLong "SegmentReaderModel" 148 (2 : Int64) ∈ AW := tb3 (List.mem_of_getElem? (i := 235) rfl) rfl
theorem k_ml_Model_198 : Cond.methodLink "SegmentReaderModel" 198 y_Model_readFrame ∈ AW := tb3 (List.mem_of_getElem? (i := 236) rfl) rfl
theorem k_im_Model_readFrame : Cond.instanceMethod y_Model_readFrame ∈ AW := tb3 (List.mem_of_getElem? (i := 238) rfl) rfl
theorem k_cd_Model_readFrame : Cond.code y_Model_readFrame c_Model_readFrame 6 none ∈ AW := tb3 (List.mem_of_getElem? (i := 239) rfl) rfl
theorem k_ml_Model_201 : Cond.methodLink "SegmentReaderModel" 201 y_Model_readScan ∈ AW := tb4 (List.mem_of_getElem? (i := 0) rfl) rfl
theorem k_im_Model_readScan : Cond.instanceMethod y_Model_readScan ∈ AW := tb4 (List.mem_of_getElem? (i := 2) rfl) rfl
theorem k_cd_Model_readScan : Cond.code y_Model_readScan c_Model_readScan 6 none ∈ AW := tb4 (List.mem_of_getElem? (i := 3) rfl) rfl
theorem k_ml_Model_153 : Cond.methodLink "SegmentReaderModel" 153 y_Model_named ∈ AW := tb4 (List.mem_of_getElem? (i := 4) rfl) rfl
theorem k_im_Model_named : Cond.instanceMethod y_Model_named ∈ AW := tb4 (List.mem_of_getElem? (i := 6) rfl) rfl
theorem k_cd_Model_named : Cond.code y_Model_named c_Model_named 4 (some .int) ∈ AW := tb4 (List.mem_of_getElem? (i := 7) rfl) rfl
theorem k_ml_Model_168 : Cond.methodLink "SegmentReaderModel" 168 y_Model_order ∈ AW := tb4 (List.mem_of_getElem? (i := 8) rfl) rfl
theorem k_im_Model_order : Cond.instanceMethod y_Model_order ∈ AW := tb4 (List.mem_of_getElem? (i := 10) rfl) rfl
theorem k_cd_Model_order : Cond.code y_Model_order c_Model_order 7 none ∈ AW := tb4 (List.mem_of_getElem? (i := 11) rfl) rfl
theorem k_ml_Model_172 : Cond.methodLink "SegmentReaderModel" 172 y_Model_needs ∈ AW := tb4 (List.mem_of_getElem? (i := 12) rfl) rfl
theorem k_im_Model_needs : Cond.instanceMethod y_Model_needs ∈ AW := tb4 (List.mem_of_getElem? (i := 14) rfl) rfl
theorem k_cd_Model_needs : Cond.code y_Model_needs c_Model_needs 4 none ∈ AW := tb4 (List.mem_of_getElem? (i := 15) rfl) rfl
theorem k_ml_Model_204 : Cond.methodLink "SegmentReaderModel" 204 y_Model_any ∈ AW := tb4 (List.mem_of_getElem? (i := 16) rfl) rfl
theorem k_im_Model_any : Cond.instanceMethod y_Model_any ∈ AW := tb4 (List.mem_of_getElem? (i := 18) rfl) rfl
theorem k_cd_Model_any : Cond.code y_Model_any c_Model_any 2 none ∈ AW := tb4 (List.mem_of_getElem? (i := 19) rfl) rfl
theorem k_ml_Model_207 : Cond.methodLink "SegmentReaderModel" 207 y_Model_close ∈ AW := tb4 (List.mem_of_getElem? (i := 20) rfl) rfl
theorem k_im_Model_close : Cond.instanceMethod y_Model_close ∈ AW := tb4 (List.mem_of_getElem? (i := 22) rfl) rfl
theorem k_cd_Model_close : Cond.code y_Model_close c_Model_close 3 none ∈ AW := tb4 (List.mem_of_getElem? (i := 23) rfl) rfl
theorem k_ml_Model_210 : Cond.methodLink "SegmentReaderModel" 210 y_Model_keepScan ∈ AW := tb4 (List.mem_of_getElem? (i := 24) rfl) rfl
theorem k_im_Model_keepScan : Cond.instanceMethod y_Model_keepScan ∈ AW := tb4 (List.mem_of_getElem? (i := 26) rfl) rfl
theorem k_cd_Model_keepScan : Cond.code y_Model_keepScan c_Model_keepScan 4 none ∈ AW := tb4 (List.mem_of_getElem? (i := 27) rfl) rfl
theorem k_ml_Model_175 : Cond.methodLink "SegmentReaderModel" 175 y_Model_readData ∈ AW := tb4 (List.mem_of_getElem? (i := 28) rfl) rfl
theorem k_im_Model_readData : Cond.instanceMethod y_Model_readData ∈ AW := tb4 (List.mem_of_getElem? (i := 30) rfl) rfl
theorem k_cd_Model_readData : Cond.code y_Model_readData c_Model_readData 8 none ∈ AW := tb4 (List.mem_of_getElem? (i := 31) rfl) rfl
theorem k_ml_Law_33 : Cond.methodLink "SegmentReaderLaw" 33 y_Model_segment ∈ AW := tb4 (List.mem_of_getElem? (i := 32) rfl) rfl
theorem k_im_Model_segment : Cond.instanceMethod y_Model_segment ∈ AW := tb4 (List.mem_of_getElem? (i := 33) rfl) rfl
theorem k_se_Model_segment : Cond.selects "SegmentReaderModel" y_Model_segment y_Model_segment ∈ AW := tb4 (List.mem_of_getElem? (i := 34) rfl) rfl
theorem k_cd_Model_segment : Cond.code y_Model_segment c_Model_segment 3 (some .int) ∈ AW := tb4 (List.mem_of_getElem? (i := 35) rfl) rfl
theorem k_ml_Law_38 : Cond.methodLink "SegmentReaderLaw" 38 y_Model_frame ∈ AW := tb4 (List.mem_of_getElem? (i := 36) rfl) rfl
theorem k_im_Model_frame : Cond.instanceMethod y_Model_frame ∈ AW := tb4 (List.mem_of_getElem? (i := 37) rfl) rfl
theorem k_se_Model_frame : Cond.selects "SegmentReaderModel" y_Model_frame y_Model_frame ∈ AW := tb4 (List.mem_of_getElem? (i := 38) rfl) rfl
theorem k_cd_Model_frame : Cond.code y_Model_frame c_Model_frame 5 (some .int) ∈ AW := tb4 (List.mem_of_getElem? (i := 39) rfl) rfl
theorem k_ml_Law_42 : Cond.methodLink "SegmentReaderLaw" 42 y_Model_component ∈ AW := tb4 (List.mem_of_getElem? (i := 40) rfl) rfl
theorem k_im_Model_component : Cond.instanceMethod y_Model_component ∈ AW := tb4 (List.mem_of_getElem? (i := 41) rfl) rfl
theorem k_se_Model_component : Cond.selects "SegmentReaderModel" y_Model_component y_Model_component ∈ AW := tb4 (List.mem_of_getElem? (i := 42) rfl) rfl
theorem k_cd_Model_component : Cond.code y_Model_component c_Model_component 3 (some .int) ∈ AW := tb4 (List.mem_of_getElem? (i := 43) rfl) rfl
theorem k_ml_Law_46 : Cond.methodLink "SegmentReaderLaw" 46 y_Model_scan ∈ AW := tb4 (List.mem_of_getElem? (i := 44) rfl) rfl
theorem k_im_Model_scan : Cond.instanceMethod y_Model_scan ∈ AW := tb4 (List.mem_of_getElem? (i := 45) rfl) rfl
theorem k_se_Model_scan : Cond.selects "SegmentReaderModel" y_Model_scan y_Model_scan ∈ AW := tb4 (List.mem_of_getElem? (i := 46) rfl) rfl
theorem k_cd_Model_scan : Cond.code y_Model_scan c_Model_scan 4 (some .int) ∈ AW := tb4 (List.mem_of_getElem? (i := 47) rfl) rfl
theorem k_ml_Law_50 : Cond.methodLink "SegmentReaderLaw" 50 y_Model_data ∈ AW := tb4 (List.mem_of_getElem? (i := 48) rfl) rfl
theorem k_im_Model_data : Cond.instanceMethod y_Model_data ∈ AW := tb4 (List.mem_of_getElem? (i := 49) rfl) rfl
theorem k_se_Model_data : Cond.selects "SegmentReaderModel" y_Model_data y_Model_data ∈ AW := tb4 (List.mem_of_getElem? (i := 50) rfl) rfl
theorem k_cd_Model_data : Cond.code y_Model_data c_Model_data 8 (some .int) ∈ AW := tb4 (List.mem_of_getElem? (i := 51) rfl) rfl
theorem k_ml_Law_54 : Cond.methodLink "SegmentReaderLaw" 54 y_Model_quantiser ∈ AW := tb4 (List.mem_of_getElem? (i := 52) rfl) rfl
theorem k_im_Model_quantiser : Cond.instanceMethod y_Model_quantiser ∈ AW := tb4 (List.mem_of_getElem? (i := 53) rfl) rfl
theorem k_se_Model_quantiser : Cond.selects "SegmentReaderModel" y_Model_quantiser y_Model_quantiser ∈ AW := tb4 (List.mem_of_getElem? (i := 54) rfl) rfl
theorem k_cd_Model_quantiser : Cond.code y_Model_quantiser c_Model_quantiser 4 (some .int) ∈ AW := tb4 (List.mem_of_getElem? (i := 55) rfl) rfl
theorem k_ml_Law_59 : Cond.methodLink "SegmentReaderLaw" 59 y_Model_word ∈ AW := tb4 (List.mem_of_getElem? (i := 56) rfl) rfl
theorem k_im_Model_word : Cond.instanceMethod y_Model_word ∈ AW := tb4 (List.mem_of_getElem? (i := 57) rfl) rfl
theorem k_se_Model_word : Cond.selects "SegmentReaderModel" y_Model_word y_Model_word ∈ AW := tb4 (List.mem_of_getElem? (i := 58) rfl) rfl
theorem k_cd_Model_word : Cond.code y_Model_word c_Model_word 6 (some .int) ∈ AW := tb4 (List.mem_of_getElem? (i := 59) rfl) rfl
theorem k_ml_Law_63 : Cond.methodLink "SegmentReaderLaw" 63 y_Model_look ∈ AW := tb4 (List.mem_of_getElem? (i := 60) rfl) rfl
theorem k_im_Model_look : Cond.instanceMethod y_Model_look ∈ AW := tb4 (List.mem_of_getElem? (i := 61) rfl) rfl
theorem k_se_Model_look : Cond.selects "SegmentReaderModel" y_Model_look y_Model_look ∈ AW := tb4 (List.mem_of_getElem? (i := 62) rfl) rfl
theorem k_cd_Model_look : Cond.code y_Model_look c_Model_look 2 (some .int) ∈ AW := tb4 (List.mem_of_getElem? (i := 63) rfl) rfl
theorem k_co_Law_13 : Cond.constantLong "SegmentReaderLaw" 13 (4294967295 : Int64) ∈ AW := tb4 (List.mem_of_getElem? (i := 64) rfl) rfl

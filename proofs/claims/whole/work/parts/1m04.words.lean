/-! the words: what is good for callees (gw), what speaks of nest mates -/
def gw : List Cond := lw_tbl.filter goodWord
theorem gw_good {ws : List Cond} (h : ∀ w ∈ ws, w ∈ gw) : GoodIn gw ws := fun w hw => ⟨h w hw, good_of_word (List.mem_filter.mp (h w hw)).2⟩
theorem gw_m {w : Cond} (h : w ∈ lw_tbl) (g : goodWord w = true) : w ∈ gw := List.mem_filter.mpr ⟨h, g⟩
def isNest : Cond → Bool
  | .fieldLinkNest .. => true
  | .methodLinkNest .. => true
  | _ => false
def NW (U : State) : Prop := ∀ w ∈ lw_tbl, isNest w = true → va_Nw w U
theorem NW.warm {s U : State} (hW : s.WarmedH U.vm) (h : NW s) : NW U := by
  intro w hw hn
  have h1 := h w hw hn
  cases w <;> first | exact va_Nw.warmF hW h1 | exact va_Nw.warmM hW h1 | (exact Bool.noConfusion hn)
theorem NW.same {u U : State} (e : u.vm = U.vm) (h : NW u) : NW U := by
  intro w hw hn
  have h1 := h w hw hn
  cases w <;> first | exact va_Nw.same rfl e h1 | (exact Bool.noConfusion hn)
theorem lt_1 {w : Cond} (i : Nat) (h : tables_1_1[i]? = some w) : w ∈ lw_tbl := by
  have h := List.mem_of_getElem? h
  exact List.mem_append_right _ (List.mem_append_left _ h)
theorem lt_2 {w : Cond} (i : Nat) (h : tables_1_2[i]? = some w) : w ∈ lw_tbl := by
  have h := List.mem_of_getElem? h
  exact List.mem_append_right _ (List.mem_append_right _ (List.mem_append_left _ h))
theorem lt_3 {w : Cond} (i : Nat) (h : tables_1_3[i]? = some w) : w ∈ lw_tbl := by
  have h := List.mem_of_getElem? h
  exact List.mem_append_right _ (List.mem_append_right _ (List.mem_append_right _ (List.mem_append_left _ h)))
theorem lt_4 {w : Cond} (i : Nat) (h : tables_1_4[i]? = some w) : w ∈ lw_tbl := by
  have h := List.mem_of_getElem? h
  exact List.mem_append_right _ (List.mem_append_right _ (List.mem_append_right _ (List.mem_append_right _ (List.mem_append_left _ h))))
theorem lt_5 {w : Cond} (i : Nat) (h : tables_1_5[i]? = some w) : w ∈ lw_tbl := by
  have h := List.mem_of_getElem? h
  exact List.mem_append_right _ (List.mem_append_right _ (List.mem_append_right _ (List.mem_append_right _ (List.mem_append_right _ (List.mem_append_left _ h)))))
theorem lt_6 {w : Cond} (i : Nat) (h : tables_1_6[i]? = some w) : w ∈ lw_tbl := by
  have h := List.mem_of_getElem? h
  exact List.mem_append_right _ (List.mem_append_right _ (List.mem_append_right _ (List.mem_append_right _ (List.mem_append_right _ (List.mem_append_right _ (List.mem_append_left _ h))))))
theorem lt_7 {w : Cond} (i : Nat) (h : tables_1_7[i]? = some w) : w ∈ lw_tbl := by
  have h := List.mem_of_getElem? h
  exact List.mem_append_right _ (List.mem_append_right _ (List.mem_append_right _ (List.mem_append_right _ (List.mem_append_right _ (List.mem_append_right _ (List.mem_append_right _ (List.mem_append_left _ h)))))))
theorem lt_8 {w : Cond} (i : Nat) (h : tables_1_8[i]? = some w) : w ∈ lw_tbl := by
  have h := List.mem_of_getElem? h
  exact List.mem_append_right _ (List.mem_append_right _ (List.mem_append_right _ (List.mem_append_right _ (List.mem_append_right _ (List.mem_append_right _ (List.mem_append_right _ (List.mem_append_right _ (List.mem_append_left _ h))))))))
theorem lt_9 {w : Cond} (i : Nat) (h : tables_1_9[i]? = some w) : w ∈ lw_tbl := by
  have h := List.mem_of_getElem? h
  exact List.mem_append_right _ (List.mem_append_right _ (List.mem_append_right _ (List.mem_append_right _ (List.mem_append_right _ (List.mem_append_right _ (List.mem_append_right _ (List.mem_append_right _ (List.mem_append_right _ (List.mem_append_left _ h)))))))))
theorem lt_10 {w : Cond} (i : Nat) (h : tables_1_10[i]? = some w) : w ∈ lw_tbl := by
  have h := List.mem_of_getElem? h
  exact List.mem_append_right _ (List.mem_append_right _ (List.mem_append_right _ (List.mem_append_right _ (List.mem_append_right _ (List.mem_append_right _ (List.mem_append_right _ (List.mem_append_right _ (List.mem_append_right _ (List.mem_append_right _ h)))))))))
theorem lp_1 {q : MethodName × Nat} (i : Nat) (h : lw_privs_1[i]? = some q) : Cond.selects q.1.cls q.1 q.1 ∈ lw_tbl := by
  have h := List.mem_of_getElem? h
  exact List.mem_append_left _ (List.mem_map.mpr ⟨q, (List.mem_append_left _ h), rfl⟩)
theorem lp_2 {q : MethodName × Nat} (i : Nat) (h : lw_privs_2[i]? = some q) : Cond.selects q.1.cls q.1 q.1 ∈ lw_tbl := by
  have h := List.mem_of_getElem? h
  exact List.mem_append_left _ (List.mem_map.mpr ⟨q, (List.mem_append_right _ (List.mem_append_left _ h)), rfl⟩)
theorem lp_3 {q : MethodName × Nat} (i : Nat) (h : lw_privs_3[i]? = some q) : Cond.selects q.1.cls q.1 q.1 ∈ lw_tbl := by
  have h := List.mem_of_getElem? h
  exact List.mem_append_left _ (List.mem_map.mpr ⟨q, (List.mem_append_right _ (List.mem_append_right _ (List.mem_append_left _ h))), rfl⟩)
theorem lp_4 {q : MethodName × Nat} (i : Nat) (h : lw_privs_4[i]? = some q) : Cond.selects q.1.cls q.1 q.1 ∈ lw_tbl := by
  have h := List.mem_of_getElem? h
  exact List.mem_append_left _ (List.mem_map.mpr ⟨q, (List.mem_append_right _ (List.mem_append_right _ (List.mem_append_right _ (List.mem_append_left _ h)))), rfl⟩)
theorem lp_5 {q : MethodName × Nat} (i : Nat) (h : lw_privs_5[i]? = some q) : Cond.selects q.1.cls q.1 q.1 ∈ lw_tbl := by
  have h := List.mem_of_getElem? h
  exact List.mem_append_left _ (List.mem_map.mpr ⟨q, (List.mem_append_right _ (List.mem_append_right _ (List.mem_append_right _ (List.mem_append_right _ (List.mem_append_left _ h))))), rfl⟩)
theorem lp_6 {q : MethodName × Nat} (i : Nat) (h : lw_privs_6[i]? = some q) : Cond.selects q.1.cls q.1 q.1 ∈ lw_tbl := by
  have h := List.mem_of_getElem? h
  exact List.mem_append_left _ (List.mem_map.mpr ⟨q, (List.mem_append_right _ (List.mem_append_right _ (List.mem_append_right _ (List.mem_append_right _ (List.mem_append_right _ (List.mem_append_left _ h)))))), rfl⟩)
theorem lp_7 {q : MethodName × Nat} (i : Nat) (h : lw_privs_7[i]? = some q) : Cond.selects q.1.cls q.1 q.1 ∈ lw_tbl := by
  have h := List.mem_of_getElem? h
  exact List.mem_append_left _ (List.mem_map.mpr ⟨q, (List.mem_append_right _ (List.mem_append_right _ (List.mem_append_right _ (List.mem_append_right _ (List.mem_append_right _ (List.mem_append_right _ (List.mem_append_left _ h))))))), rfl⟩)
theorem lp_8 {q : MethodName × Nat} (i : Nat) (h : lw_privs_8[i]? = some q) : Cond.selects q.1.cls q.1 q.1 ∈ lw_tbl := by
  have h := List.mem_of_getElem? h
  exact List.mem_append_left _ (List.mem_map.mpr ⟨q, (List.mem_append_right _ (List.mem_append_right _ (List.mem_append_right _ (List.mem_append_right _ (List.mem_append_right _ (List.mem_append_right _ (List.mem_append_right _ h))))))), rfl⟩)
theorem kw_0 : Cond.selects "TimberValley$Sky" ({ cls := "TimberValley$Sky", name := "tellingFor", desc := "(I)I" } : MethodName) ({ cls := "TimberValley$Sky", name := "tellingFor", desc := "(I)I" } : MethodName) ∈ gw := gw_m (lp_1 0 rfl) rfl
theorem kw_1 : Cond.selects "TimberValley$Sky" ({ cls := "TimberValley$Sky", name := "valueOf", desc := "(II)I" } : MethodName) ({ cls := "TimberValley$Sky", name := "valueOf", desc := "(II)I" } : MethodName) ∈ gw := gw_m (lp_1 1 rfl) rfl
theorem kw_2 : Cond.selects "TimberValley$Bucking" ({ cls := "TimberValley$Bucking", name := "weigh", desc := "(LTimberValley$Land;III)V" } : MethodName) ({ cls := "TimberValley$Bucking", name := "weigh", desc := "(LTimberValley$Land;III)V" } : MethodName) ∈ gw := gw_m (lp_1 2 rfl) rfl
theorem kw_3 : Cond.selects "TimberValley$Bucking" ({ cls := "TimberValley$Bucking", name := "takeFigures", desc := "(I)Z" } : MethodName) ({ cls := "TimberValley$Bucking", name := "takeFigures", desc := "(I)Z" } : MethodName) ∈ gw := gw_m (lp_1 3 rfl) rfl
theorem kw_4 : Cond.selects "TimberValley" ({ cls := "TimberValley", name := "crewAt", desc := "(I)LTimberValley$Crew;" } : MethodName) ({ cls := "TimberValley", name := "crewAt", desc := "(I)LTimberValley$Crew;" } : MethodName) ∈ gw := gw_m (lp_1 4 rfl) rfl
theorem kw_5 : Cond.selects "TimberValley" ({ cls := "TimberValley", name := "askOfCut", desc := "(IIII)V" } : MethodName) ({ cls := "TimberValley", name := "askOfCut", desc := "(IIII)V" } : MethodName) ∈ gw := gw_m (lp_1 5 rfl) rfl
theorem kw_6 : Cond.selects "TimberValley$Statutes" ({ cls := "TimberValley$Statutes", name := "textOn", desc := "(I)I" } : MethodName) ({ cls := "TimberValley$Statutes", name := "textOn", desc := "(I)I" } : MethodName) ∈ gw := gw_m (lp_1 6 rfl) rfl
theorem kw_7 : Cond.selects "TimberValley$Statutes" ({ cls := "TimberValley$Statutes", name := "holds", desc := "(I)Z" } : MethodName) ({ cls := "TimberValley$Statutes", name := "holds", desc := "(I)Z" } : MethodName) ∈ gw := gw_m (lp_1 7 rfl) rfl
theorem kw_8 : Cond.selects "TimberValley$Statutes" ({ cls := "TimberValley$Statutes", name := "termHolds", desc := "(I)Z" } : MethodName) ({ cls := "TimberValley$Statutes", name := "termHolds", desc := "(I)Z" } : MethodName) ∈ gw := gw_m (lp_1 8 rfl) rfl
theorem kw_9 : Cond.selects "TimberValley" ({ cls := "TimberValley", name := "makeLogs", desc := "(IIII)I" } : MethodName) ({ cls := "TimberValley", name := "makeLogs", desc := "(IIII)I" } : MethodName) ∈ gw := gw_m (lp_1 9 rfl) rfl
theorem kw_10 : Cond.selects "TimberValley$Log" ({ cls := "TimberValley$Log", name := "sumNow", desc := "(Z)I" } : MethodName) ({ cls := "TimberValley$Log", name := "sumNow", desc := "(Z)I" } : MethodName) ∈ gw := gw_m (lp_1 10 rfl) rfl
theorem kw_11 : Cond.selects "TimberValley" ({ cls := "TimberValley", name := "become", desc := "(LTimberValley$Log;I)V" } : MethodName) ({ cls := "TimberValley", name := "become", desc := "(LTimberValley$Log;I)V" } : MethodName) ∈ gw := gw_m (lp_1 11 rfl) rfl
theorem kw_12 : Cond.selects "TimberValley" ({ cls := "TimberValley", name := "logAt", desc := "(I)LTimberValley$Log;" } : MethodName) ({ cls := "TimberValley", name := "logAt", desc := "(I)LTimberValley$Log;" } : MethodName) ∈ gw := gw_m (lp_1 12 rfl) rfl
theorem kw_13 : Cond.selects "TimberValley" ({ cls := "TimberValley", name := "wayAt", desc := "(I)LTimberValley$Way;" } : MethodName) ({ cls := "TimberValley", name := "wayAt", desc := "(I)LTimberValley$Way;" } : MethodName) ∈ gw := gw_m (lp_1 13 rfl) rfl
theorem kw_14 : Cond.selects "TimberValley" ({ cls := "TimberValley", name := "carryNow", desc := "(LTimberValley$Way;)I" } : MethodName) ({ cls := "TimberValley", name := "carryNow", desc := "(LTimberValley$Way;)I" } : MethodName) ∈ gw := gw_m (lp_1 14 rfl) rfl
theorem kw_15 : Cond.selects "TimberValley" ({ cls := "TimberValley", name := "askOfWay", desc := "(LTimberValley$Way;)V" } : MethodName) ({ cls := "TimberValley", name := "askOfWay", desc := "(LTimberValley$Way;)V" } : MethodName) ∈ gw := gw_m (lp_1 15 rfl) rfl
theorem kw_16 : Cond.selects "TimberValley$Way" ({ cls := "TimberValley$Way", name := "streamBears", desc := "(ILTimberValley$Sky;)I" } : MethodName) ({ cls := "TimberValley$Way", name := "streamBears", desc := "(ILTimberValley$Sky;)I" } : MethodName) ∈ gw := gw_m (lp_2 0 rfl) rfl
theorem kw_17 : Cond.selects "TimberValley" ({ cls := "TimberValley", name := "carryOver", desc := "(LTimberValley$Way;)I" } : MethodName) ({ cls := "TimberValley", name := "carryOver", desc := "(LTimberValley$Way;)I" } : MethodName) ∈ gw := gw_m (lp_2 1 rfl) rfl
theorem kw_18 : Cond.selects "TimberValley" ({ cls := "TimberValley", name := "moveLog", desc := "(LTimberValley$Log;LTimberValley$Way;)V" } : MethodName) ({ cls := "TimberValley", name := "moveLog", desc := "(LTimberValley$Log;LTimberValley$Way;)V" } : MethodName) ∈ gw := gw_m (lp_2 2 rfl) rfl
theorem kw_19 : Cond.selects "TimberValley" ({ cls := "TimberValley", name := "floatLogsAtMill", desc := "()V" } : MethodName) ({ cls := "TimberValley", name := "floatLogsAtMill", desc := "()V" } : MethodName) ∈ gw := gw_m (lp_2 3 rfl) rfl
theorem kw_20 : Cond.selects "TimberValley" ({ cls := "TimberValley", name := "closeMonth", desc := "()V" } : MethodName) ({ cls := "TimberValley", name := "closeMonth", desc := "()V" } : MethodName) ∈ gw := gw_m (lp_2 4 rfl) rfl
theorem kw_21 : Cond.selects "TimberValley" ({ cls := "TimberValley", name := "numberFor", desc := "(II)I" } : MethodName) ({ cls := "TimberValley", name := "numberFor", desc := "(II)I" } : MethodName) ∈ gw := gw_m (lp_2 5 rfl) rfl
theorem kw_22 : Cond.selects "TimberValley$Land" ({ cls := "TimberValley$Land", name := "growClass", desc := "(II)V" } : MethodName) ({ cls := "TimberValley$Land", name := "growClass", desc := "(II)V" } : MethodName) ∈ gw := gw_m (lp_2 6 rfl) rfl
theorem kw_23 : Cond.selects "TimberValley$Statutes" ({ cls := "TimberValley$Statutes", name := "readText", desc := "(LTimberValley$Tape;)V" } : MethodName) ({ cls := "TimberValley$Statutes", name := "readText", desc := "(LTimberValley$Tape;)V" } : MethodName) ∈ gw := gw_m (lp_2 7 rfl) rfl
theorem kw_24 : Cond.selects "TimberValley$Tape" ({ cls := "TimberValley$Tape", name := "behindLetters", desc := "(I)I" } : MethodName) ({ cls := "TimberValley$Tape", name := "behindLetters", desc := "(I)I" } : MethodName) ∈ gw := gw_m (lp_2 8 rfl) rfl
theorem kw_25 : Cond.selects "TimberValley$Tape" ({ cls := "TimberValley$Tape", name := "behindDigits", desc := "(I)I" } : MethodName) ({ cls := "TimberValley$Tape", name := "behindDigits", desc := "(I)I" } : MethodName) ∈ gw := gw_m (lp_2 9 rfl) rfl
theorem kw_26 : Cond.selects "TimberValley$Statutes" ({ cls := "TimberValley$Statutes", name := "take", desc := "(LTimberValley$Tape;I)I" } : MethodName) ({ cls := "TimberValley$Statutes", name := "take", desc := "(LTimberValley$Tape;I)I" } : MethodName) ∈ gw := gw_m (lp_2 10 rfl) rfl
theorem kw_27 : Cond.selects "TimberValley$Statutes" ({ cls := "TimberValley$Statutes", name := "takeVerb", desc := "(LTimberValley$Tape;)I" } : MethodName) ({ cls := "TimberValley$Statutes", name := "takeVerb", desc := "(LTimberValley$Tape;)I" } : MethodName) ∈ gw := gw_m (lp_2 11 rfl) rfl
theorem kw_28 : Cond.selects "TimberValley$Tape" ({ cls := "TimberValley$Tape", name := "isPart", desc := "(Ljava/lang/String;II)Z" } : MethodName) ({ cls := "TimberValley$Tape", name := "isPart", desc := "(Ljava/lang/String;II)Z" } : MethodName) ∈ gw := gw_m (lp_2 12 rfl) rfl
theorem kw_29 : Cond.selects "TimberValley$Statutes" ({ cls := "TimberValley$Statutes", name := "refuse", desc := "(LTimberValley$Tape;I)I" } : MethodName) ({ cls := "TimberValley$Statutes", name := "refuse", desc := "(LTimberValley$Tape;I)I" } : MethodName) ∈ gw := gw_m (lp_2 13 rfl) rfl
theorem kw_30 : Cond.selects "TimberValley$Statutes" ({ cls := "TimberValley$Statutes", name := "statementAtHand", desc := "()I" } : MethodName) ({ cls := "TimberValley$Statutes", name := "statementAtHand", desc := "()I" } : MethodName) ∈ gw := gw_m (lp_2 14 rfl) rfl
theorem kw_31 : Cond.selects "TimberValley$Statutes" ({ cls := "TimberValley$Statutes", name := "takeObject", desc := "(LTimberValley$Tape;I)I" } : MethodName) ({ cls := "TimberValley$Statutes", name := "takeObject", desc := "(LTimberValley$Tape;I)I" } : MethodName) ∈ gw := gw_m (lp_2 15 rfl) rfl
theorem kw_32 : Cond.selects "TimberValley$Statutes" ({ cls := "TimberValley$Statutes", name := "takeTerm", desc := "(LTimberValley$Tape;)I" } : MethodName) ({ cls := "TimberValley$Statutes", name := "takeTerm", desc := "(LTimberValley$Tape;)I" } : MethodName) ∈ gw := gw_m (lp_3 0 rfl) rfl
theorem kw_33 : Cond.selects "TimberValley$Statutes" ({ cls := "TimberValley$Statutes", name := "termAtHand", desc := "()I" } : MethodName) ({ cls := "TimberValley$Statutes", name := "termAtHand", desc := "()I" } : MethodName) ∈ gw := gw_m (lp_3 1 rfl) rfl
theorem kw_34 : Cond.selects "TimberValley$Statutes" ({ cls := "TimberValley$Statutes", name := "takeWord", desc := "(LTimberValley$Tape;I)I" } : MethodName) ({ cls := "TimberValley$Statutes", name := "takeWord", desc := "(LTimberValley$Tape;I)I" } : MethodName) ∈ gw := gw_m (lp_3 2 rfl) rfl
theorem kw_35 : Cond.selects "TimberValley$Statutes" ({ cls := "TimberValley$Statutes", name := "takeRelation", desc := "(LTimberValley$Tape;)I" } : MethodName) ({ cls := "TimberValley$Statutes", name := "takeRelation", desc := "(LTimberValley$Tape;)I" } : MethodName) ∈ gw := gw_m (lp_3 3 rfl) rfl
theorem kw_36 : Cond.selects "TimberValley$Statutes" ({ cls := "TimberValley$Statutes", name := "takeValue", desc := "(LTimberValley$Tape;)I" } : MethodName) ({ cls := "TimberValley$Statutes", name := "takeValue", desc := "(LTimberValley$Tape;)I" } : MethodName) ∈ gw := gw_m (lp_3 4 rfl) rfl
theorem kw_37 : Cond.selects "TimberValley$Statutes" ({ cls := "TimberValley$Statutes", name := "takeJoint", desc := "(LTimberValley$Tape;)I" } : MethodName) ({ cls := "TimberValley$Statutes", name := "takeJoint", desc := "(LTimberValley$Tape;)I" } : MethodName) ∈ gw := gw_m (lp_3 5 rfl) rfl
theorem kw_38 : Cond.selects "TimberValley" ({ cls := "TimberValley", name := "pondLogAt", desc := "(I)LTimberValley$Log;" } : MethodName) ({ cls := "TimberValley", name := "pondLogAt", desc := "(I)LTimberValley$Log;" } : MethodName) ∈ gw := gw_m (lp_3 6 rfl) rfl
theorem kw_39 : Cond.selects "TimberValley$SawMill" ({ cls := "TimberValley$SawMill", name := "weigh", desc := "(LTimberValley$Log;III)V" } : MethodName) ({ cls := "TimberValley$SawMill", name := "weigh", desc := "(LTimberValley$Log;III)V" } : MethodName) ∈ gw := gw_m (lp_3 7 rfl) rfl
theorem kw_40 : Cond.selects "TimberValley$SawMill" ({ cls := "TimberValley$SawMill", name := "isOpen", desc := "(III)Z" } : MethodName) ({ cls := "TimberValley$SawMill", name := "isOpen", desc := "(III)Z" } : MethodName) ∈ gw := gw_m (lp_3 8 rfl) rfl
theorem kw_41 : Cond.selects "TimberValley$SawMill" ({ cls := "TimberValley$SawMill", name := "fits", desc := "(IIII)Z" } : MethodName) ({ cls := "TimberValley$SawMill", name := "fits", desc := "(IIII)Z" } : MethodName) ∈ gw := gw_m (lp_3 9 rfl) rfl
theorem kw_42 : Cond.selects "TimberValley$SawMill" ({ cls := "TimberValley$SawMill", name := "behind", desc := "(III)I" } : MethodName) ({ cls := "TimberValley$SawMill", name := "behind", desc := "(III)I" } : MethodName) ∈ gw := gw_m (lp_3 10 rfl) rfl
theorem kw_43 : Cond.selects "TimberValley$SawMill" ({ cls := "TimberValley$SawMill", name := "handOver", desc := "(II)V" } : MethodName) ({ cls := "TimberValley$SawMill", name := "handOver", desc := "(II)V" } : MethodName) ∈ gw := gw_m (lp_3 11 rfl) rfl
theorem kw_44 : Cond.selects "TimberValley" ({ cls := "TimberValley", name := "burnFrom", desc := "(III)I" } : MethodName) ({ cls := "TimberValley", name := "burnFrom", desc := "(III)I" } : MethodName) ∈ gw := gw_m (lp_3 12 rfl) rfl
theorem kw_45 : Cond.selects "TimberValley$Land" ({ cls := "TimberValley$Land", name := "kindle", desc := "(IIII)I" } : MethodName) ({ cls := "TimberValley$Land", name := "kindle", desc := "(IIII)I" } : MethodName) ∈ gw := gw_m (lp_3 13 rfl) rfl
theorem kw_46 : Cond.selects "TimberValley$Land" ({ cls := "TimberValley$Land", name := "catches", desc := "(III)Z" } : MethodName) ({ cls := "TimberValley$Land", name := "catches", desc := "(III)Z" } : MethodName) ∈ gw := gw_m (lp_3 14 rfl) rfl
theorem kw_47 : Cond.selects "TimberValley$Land" ({ cls := "TimberValley$Land", name := "clearCell", desc := "(I)V" } : MethodName) ({ cls := "TimberValley$Land", name := "clearCell", desc := "(I)V" } : MethodName) ∈ gw := gw_m (lp_3 15 rfl) rfl
theorem kw_48 : Cond.selects "TimberValley$Plans" ({ cls := "TimberValley$Plans", name := "addUpSets", desc := "()V" } : MethodName) ({ cls := "TimberValley$Plans", name := "addUpSets", desc := "()V" } : MethodName) ∈ gw := gw_m (lp_4 0 rfl) rfl
theorem kw_49 : Cond.selects "TimberValley$Plans" ({ cls := "TimberValley$Plans", name := "weighSeason", desc := "(III)V" } : MethodName) ({ cls := "TimberValley$Plans", name := "weighSeason", desc := "(III)V" } : MethodName) ∈ gw := gw_m (lp_4 1 rfl) rfl
theorem kw_50 : Cond.selects "TimberValley$Plans" ({ cls := "TimberValley$Plans", name := "lookAhead", desc := "(I)V" } : MethodName) ({ cls := "TimberValley$Plans", name := "lookAhead", desc := "(I)V" } : MethodName) ∈ gw := gw_m (lp_4 2 rfl) rfl
theorem kw_51 : Cond.selects "TimberValley$Plans" ({ cls := "TimberValley$Plans", name := "firstBest", desc := "(II)I" } : MethodName) ({ cls := "TimberValley$Plans", name := "firstBest", desc := "(II)I" } : MethodName) ∈ gw := gw_m (lp_4 3 rfl) rfl
theorem kw_52 : Cond.selects "TimberValley$Plans" ({ cls := "TimberValley$Plans", name := "costBehind", desc := "(III)I" } : MethodName) ({ cls := "TimberValley$Plans", name := "costBehind", desc := "(III)I" } : MethodName) ∈ gw := gw_m (lp_4 4 rfl) rfl
theorem kw_53 : Cond.selects "TimberValley$Plans" ({ cls := "TimberValley$Plans", name := "weighPeriod", desc := "(IIIII)V" } : MethodName) ({ cls := "TimberValley$Plans", name := "weighPeriod", desc := "(IIIII)V" } : MethodName) ∈ gw := gw_m (lp_4 5 rfl) rfl
theorem kw_54 : Cond.selects "TimberValley$Plans" ({ cls := "TimberValley$Plans", name := "canBe", desc := "(IIII)Z" } : MethodName) ({ cls := "TimberValley$Plans", name := "canBe", desc := "(IIII)Z" } : MethodName) ∈ gw := gw_m (lp_4 6 rfl) rfl
theorem kw_55 : Cond.selects "TimberValley$Plans" ({ cls := "TimberValley$Plans", name := "bestCut", desc := "(IIIIIII)I" } : MethodName) ({ cls := "TimberValley$Plans", name := "bestCut", desc := "(IIIIIII)I" } : MethodName) ∈ gw := gw_m (lp_4 7 rfl) rfl
theorem kw_56 : Cond.selects "TimberValley$Plans" ({ cls := "TimberValley$Plans", name := "keepCuts", desc := "(III)V" } : MethodName) ({ cls := "TimberValley$Plans", name := "keepCuts", desc := "(III)V" } : MethodName) ∈ gw := gw_m (lp_4 8 rfl) rfl
theorem kw_57 : Cond.selects "TimberValley$Cruises" ({ cls := "TimberValley$Cruises", name := "nextFrom", desc := "(II)I" } : MethodName) ({ cls := "TimberValley$Cruises", name := "nextFrom", desc := "(II)I" } : MethodName) ∈ gw := gw_m (lp_4 9 rfl) rfl
theorem kw_58 : Cond.selects "TimberValley$Cruises" ({ cls := "TimberValley$Cruises", name := "lastUpTo", desc := "(II)I" } : MethodName) ({ cls := "TimberValley$Cruises", name := "lastUpTo", desc := "(II)I" } : MethodName) ∈ gw := gw_m (lp_4 10 rfl) rfl
theorem kw_59 : Cond.selects "TimberValley$Log" ({ cls := "TimberValley$Log", name := "lackingOfAll", desc := "()I" } : MethodName) ({ cls := "TimberValley$Log", name := "lackingOfAll", desc := "()I" } : MethodName) ∈ gw := gw_m (lp_4 11 rfl) rfl
theorem kw_60 : Cond.selects "TimberValley" ({ cls := "TimberValley", name := "ironLaid", desc := "()I" } : MethodName) ({ cls := "TimberValley", name := "ironLaid", desc := "()I" } : MethodName) ∈ gw := gw_m (lp_4 12 rfl) rfl
theorem kw_61 : Cond.selects "TimberValley" ({ cls := "TimberValley", name := "wagesPaid", desc := "()I" } : MethodName) ({ cls := "TimberValley", name := "wagesPaid", desc := "()I" } : MethodName) ∈ gw := gw_m (lp_4 13 rfl) rfl
theorem kw_62 : Cond.selects "TimberValley" ({ cls := "TimberValley", name := "logsThatBecame", desc := "(I)I" } : MethodName) ({ cls := "TimberValley", name := "logsThatBecame", desc := "(I)I" } : MethodName) ∈ gw := gw_m (lp_4 14 rfl) rfl
theorem kw_63 : Cond.selects "TimberValley" ({ cls := "TimberValley", name := "doubleDifference", desc := "(I)I" } : MethodName) ({ cls := "TimberValley", name := "doubleDifference", desc := "(I)I" } : MethodName) ∈ gw := gw_m (lp_4 15 rfl) rfl
theorem kw_64 : Cond.selects "java/lang/Throwable" ({ cls := "java/lang/Throwable", name := "fillInStackTrace", desc := "(I)Ljava/lang/Throwable;" } : MethodName) ({ cls := "java/lang/Throwable", name := "fillInStackTrace", desc := "(I)Ljava/lang/Throwable;" } : MethodName) ∈ gw := gw_m (lp_5 0 rfl) rfl
theorem kw_65 : Cond.selects "TimberValleyModel" ({ cls := "TimberValleyModel", name := "sky", desc := "(II)I" } : MethodName) ({ cls := "TimberValleyModel", name := "sky", desc := "(II)I" } : MethodName) ∈ gw := gw_m (lp_5 1 rfl) rfl
theorem kw_66 : Cond.selects "TimberValleyModel" ({ cls := "TimberValleyModel", name := "bucks", desc := "(II)I" } : MethodName) ({ cls := "TimberValleyModel", name := "bucks", desc := "(II)I" } : MethodName) ∈ gw := gw_m (lp_5 2 rfl) rfl
theorem kw_67 : Cond.selects "TimberValleyModel" ({ cls := "TimberValleyModel", name := "wideAt", desc := "(III)I" } : MethodName) ({ cls := "TimberValleyModel", name := "wideAt", desc := "(III)I" } : MethodName) ∈ gw := gw_m (lp_5 3 rfl) rfl
theorem kw_68 : Cond.selects "TimberValleyModel" ({ cls := "TimberValleyModel", name := "lays", desc := "(III)Z" } : MethodName) ({ cls := "TimberValleyModel", name := "lays", desc := "(III)Z" } : MethodName) ∈ gw := gw_m (lp_5 4 rfl) rfl
theorem kw_69 : Cond.selects "TimberValleyModel" ({ cls := "TimberValleyModel", name := "isLog", desc := "(I)Z" } : MethodName) ({ cls := "TimberValleyModel", name := "isLog", desc := "(I)Z" } : MethodName) ∈ gw := gw_m (lp_5 5 rfl) rfl
theorem kw_70 : Cond.selects "TimberValleyModel" ({ cls := "TimberValleyModel", name := "checks", desc := "(I)I" } : MethodName) ({ cls := "TimberValleyModel", name := "checks", desc := "(I)I" } : MethodName) ∈ gw := gw_m (lp_5 6 rfl) rfl
theorem kw_71 : Cond.selects "TimberValleyModel" ({ cls := "TimberValleyModel", name := "sums", desc := "(II)I" } : MethodName) ({ cls := "TimberValleyModel", name := "sums", desc := "(II)I" } : MethodName) ∈ gw := gw_m (lp_5 7 rfl) rfl
theorem kw_72 : Cond.selects "TimberValleyModel" ({ cls := "TimberValleyModel", name := "volume", desc := "(I)I" } : MethodName) ({ cls := "TimberValleyModel", name := "volume", desc := "(I)I" } : MethodName) ∈ gw := gw_m (lp_5 8 rfl) rfl
theorem kw_73 : Cond.selects "TimberValleyModel" ({ cls := "TimberValleyModel", name := "next", desc := "()V" } : MethodName) ({ cls := "TimberValleyModel", name := "next", desc := "()V" } : MethodName) ∈ gw := gw_m (lp_5 9 rfl) rfl
theorem kw_74 : Cond.selects "TimberValleyModel" ({ cls := "TimberValleyModel", name := "byteAt", desc := "(I)I" } : MethodName) ({ cls := "TimberValleyModel", name := "byteAt", desc := "(I)I" } : MethodName) ∈ gw := gw_m (lp_5 10 rfl) rfl
theorem kw_75 : Cond.selects "TimberValleyModel" ({ cls := "TimberValleyModel", name := "statement", desc := "()Z" } : MethodName) ({ cls := "TimberValleyModel", name := "statement", desc := "()Z" } : MethodName) ∈ gw := gw_m (lp_5 11 rfl) rfl
theorem kw_76 : Cond.selects "TimberValleyModel" ({ cls := "TimberValleyModel", name := "isWord", desc := "(Ljava/lang/String;)Z" } : MethodName) ({ cls := "TimberValleyModel", name := "isWord", desc := "(Ljava/lang/String;)Z" } : MethodName) ∈ gw := gw_m (lp_5 12 rfl) rfl
theorem kw_77 : Cond.selects "TimberValleyModel" ({ cls := "TimberValleyModel", name := "wrong", desc := "(I)Z" } : MethodName) ({ cls := "TimberValleyModel", name := "wrong", desc := "(I)Z" } : MethodName) ∈ gw := gw_m (lp_5 13 rfl) rfl
theorem kw_78 : Cond.selects "TimberValleyModel" ({ cls := "TimberValleyModel", name := "takesCond", desc := "(I)Z" } : MethodName) ({ cls := "TimberValleyModel", name := "takesCond", desc := "(I)Z" } : MethodName) ∈ gw := gw_m (lp_5 14 rfl) rfl
theorem kw_79 : Cond.selects "TimberValleyModel" ({ cls := "TimberValleyModel", name := "factHere", desc := "()I" } : MethodName) ({ cls := "TimberValleyModel", name := "factHere", desc := "()I" } : MethodName) ∈ gw := gw_m (lp_5 15 rfl) rfl
theorem kw_80 : Cond.selects "TimberValleyModel" ({ cls := "TimberValleyModel", name := "signHere", desc := "()I" } : MethodName) ({ cls := "TimberValleyModel", name := "signHere", desc := "()I" } : MethodName) ∈ gw := gw_m (lp_6 0 rfl) rfl
theorem kw_81 : Cond.selects "TimberValleyModel" ({ cls := "TimberValleyModel", name := "isCrew", desc := "(I)Z" } : MethodName) ({ cls := "TimberValleyModel", name := "isCrew", desc := "(I)Z" } : MethodName) ∈ gw := gw_m (lp_6 1 rfl) rfl
theorem kw_82 : Cond.selects "TimberValleyModel" ({ cls := "TimberValleyModel", name := "asksCut", desc := "(IIII)V" } : MethodName) ({ cls := "TimberValleyModel", name := "asksCut", desc := "(IIII)V" } : MethodName) ∈ gw := gw_m (lp_6 2 rfl) rfl
theorem kw_83 : Cond.selects "TimberValleyModel" ({ cls := "TimberValleyModel", name := "asks", desc := "(I)V" } : MethodName) ({ cls := "TimberValleyModel", name := "asks", desc := "(I)V" } : MethodName) ∈ gw := gw_m (lp_6 3 rfl) rfl
theorem kw_84 : Cond.selects "TimberValleyModel" ({ cls := "TimberValleyModel", name := "season", desc := "()I" } : MethodName) ({ cls := "TimberValleyModel", name := "season", desc := "()I" } : MethodName) ∈ gw := gw_m (lp_6 4 rfl) rfl
theorem kw_85 : Cond.selects "TimberValleyModel" ({ cls := "TimberValleyModel", name := "farOf", desc := "(I)I" } : MethodName) ({ cls := "TimberValleyModel", name := "farOf", desc := "(I)I" } : MethodName) ∈ gw := gw_m (lp_6 5 rfl) rfl
theorem kw_86 : Cond.selects "TimberValleyModel" ({ cls := "TimberValleyModel", name := "barring", desc := "(I)I" } : MethodName) ({ cls := "TimberValleyModel", name := "barring", desc := "(I)I" } : MethodName) ∈ gw := gw_m (lp_6 6 rfl) rfl
theorem kw_87 : Cond.selects "TimberValleyModel" ({ cls := "TimberValleyModel", name := "inForce", desc := "()I" } : MethodName) ({ cls := "TimberValleyModel", name := "inForce", desc := "()I" } : MethodName) ∈ gw := gw_m (lp_6 7 rfl) rfl
theorem kw_88 : Cond.selects "TimberValleyModel" ({ cls := "TimberValleyModel", name := "holds", desc := "(I)Z" } : MethodName) ({ cls := "TimberValleyModel", name := "holds", desc := "(I)Z" } : MethodName) ∈ gw := gw_m (lp_6 8 rfl) rfl
theorem kw_89 : Cond.selects "TimberValleyModel" ({ cls := "TimberValleyModel", name := "isWay", desc := "(I)Z" } : MethodName) ({ cls := "TimberValleyModel", name := "isWay", desc := "(I)Z" } : MethodName) ∈ gw := gw_m (lp_6 9 rfl) rfl
theorem kw_90 : Cond.selects "TimberValleyModel" ({ cls := "TimberValleyModel", name := "barringWay", desc := "(I)I" } : MethodName) ({ cls := "TimberValleyModel", name := "barringWay", desc := "(I)I" } : MethodName) ∈ gw := gw_m (lp_6 10 rfl) rfl
theorem kw_91 : Cond.selects "TimberValleyModel" ({ cls := "TimberValleyModel", name := "dueOf", desc := "(II)I" } : MethodName) ({ cls := "TimberValleyModel", name := "dueOf", desc := "(II)I" } : MethodName) ∈ gw := gw_m (lp_6 11 rfl) rfl
theorem kw_92 : Cond.selects "TimberValleyModel" ({ cls := "TimberValleyModel", name := "lastOf", desc := "(I)I" } : MethodName) ({ cls := "TimberValleyModel", name := "lastOf", desc := "(I)I" } : MethodName) ∈ gw := gw_m (lp_6 12 rfl) rfl
theorem kw_93 : Cond.selects "TimberValleyModel" ({ cls := "TimberValleyModel", name := "carryOf", desc := "(I)I" } : MethodName) ({ cls := "TimberValleyModel", name := "carryOf", desc := "(I)I" } : MethodName) ∈ gw := gw_m (lp_6 13 rfl) rfl
theorem kw_94 : Cond.selects "TimberValleyModel" ({ cls := "TimberValleyModel", name := "bears", desc := "(I)I" } : MethodName) ({ cls := "TimberValleyModel", name := "bears", desc := "(I)I" } : MethodName) ∈ gw := gw_m (lp_6 14 rfl) rfl
theorem kw_95 : Cond.selects "TimberValleyModel" ({ cls := "TimberValleyModel", name := "carries", desc := "(I)I" } : MethodName) ({ cls := "TimberValleyModel", name := "carries", desc := "(I)I" } : MethodName) ∈ gw := gw_m (lp_6 15 rfl) rfl
theorem kw_96 : Cond.selects "TimberValleyModel" ({ cls := "TimberValleyModel", name := "becomes", desc := "(II)V" } : MethodName) ({ cls := "TimberValleyModel", name := "becomes", desc := "(II)V" } : MethodName) ∈ gw := gw_m (lp_7 0 rfl) rfl
theorem kw_97 : Cond.selects "TimberValleyModel" ({ cls := "TimberValleyModel", name := "monthEnds", desc := "()V" } : MethodName) ({ cls := "TimberValleyModel", name := "monthEnds", desc := "()V" } : MethodName) ∈ gw := gw_m (lp_7 1 rfl) rfl
theorem kw_98 : Cond.selects "TimberValleyModel" ({ cls := "TimberValleyModel", name := "yearEnds", desc := "()V" } : MethodName) ({ cls := "TimberValleyModel", name := "yearEnds", desc := "()V" } : MethodName) ∈ gw := gw_m (lp_7 2 rfl) rfl
theorem kw_99 : Cond.selects "TimberValleyModel" ({ cls := "TimberValleyModel", name := "scaleOf", desc := "(II)I" } : MethodName) ({ cls := "TimberValleyModel", name := "scaleOf", desc := "(II)I" } : MethodName) ∈ gw := gw_m (lp_7 3 rfl) rfl
theorem kw_100 : Cond.selects "TimberValleyModel" ({ cls := "TimberValleyModel", name := "falls", desc := "(IIIII)V" } : MethodName) ({ cls := "TimberValleyModel", name := "falls", desc := "(IIIII)V" } : MethodName) ∈ gw := gw_m (lp_7 4 rfl) rfl
theorem kw_101 : Cond.selects "TimberValleyModel" ({ cls := "TimberValleyModel", name := "isInPond", desc := "(I)Z" } : MethodName) ({ cls := "TimberValleyModel", name := "isInPond", desc := "(I)Z" } : MethodName) ∈ gw := gw_m (lp_7 5 rfl) rfl
theorem kw_102 : Cond.selects "TimberValleyModel" ({ cls := "TimberValleyModel", name := "lays", desc := "(I)I" } : MethodName) ({ cls := "TimberValleyModel", name := "lays", desc := "(I)I" } : MethodName) ∈ gw := gw_m (lp_7 6 rfl) rfl
theorem kw_103 : Cond.selects "TimberValleyModel" ({ cls := "TimberValleyModel", name := "canBe", desc := "(III)Z" } : MethodName) ({ cls := "TimberValleyModel", name := "canBe", desc := "(III)Z" } : MethodName) ∈ gw := gw_m (lp_7 7 rfl) rfl
theorem kw_104 : Cond.selects "TimberValleyModel" ({ cls := "TimberValleyModel", name := "afterBoard", desc := "(III)I" } : MethodName) ({ cls := "TimberValleyModel", name := "afterBoard", desc := "(III)I" } : MethodName) ∈ gw := gw_m (lp_7 8 rfl) rfl
theorem kw_105 : Cond.selects "TimberValleyModel" ({ cls := "TimberValleyModel", name := "fires", desc := "(III)I" } : MethodName) ({ cls := "TimberValleyModel", name := "fires", desc := "(III)I" } : MethodName) ∈ gw := gw_m (lp_7 9 rfl) rfl
theorem kw_106 : Cond.selects "TimberValleyModel" ({ cls := "TimberValleyModel", name := "stemsOf", desc := "(I)I" } : MethodName) ({ cls := "TimberValleyModel", name := "stemsOf", desc := "(I)I" } : MethodName) ∈ gw := gw_m (lp_7 10 rfl) rfl
theorem kw_107 : Cond.selects "TimberValleyModel" ({ cls := "TimberValleyModel", name := "fuel", desc := "(III)I" } : MethodName) ({ cls := "TimberValleyModel", name := "fuel", desc := "(III)I" } : MethodName) ∈ gw := gw_m (lp_7 11 rfl) rfl
theorem kw_108 : Cond.selects "TimberValleyModel" ({ cls := "TimberValleyModel", name := "plansRails", desc := "(I)V" } : MethodName) ({ cls := "TimberValleyModel", name := "plansRails", desc := "(I)V" } : MethodName) ∈ gw := gw_m (lp_7 12 rfl) rfl
theorem kw_109 : Cond.selects "TimberValleyModel" ({ cls := "TimberValleyModel", name := "layCost", desc := "(I)I" } : MethodName) ({ cls := "TimberValleyModel", name := "layCost", desc := "(I)I" } : MethodName) ∈ gw := gw_m (lp_7 13 rfl) rfl
theorem kw_110 : Cond.selects "TimberValleyModel" ({ cls := "TimberValleyModel", name := "ironOf", desc := "(I)I" } : MethodName) ({ cls := "TimberValleyModel", name := "ironOf", desc := "(I)I" } : MethodName) ∈ gw := gw_m (lp_7 14 rfl) rfl
theorem kw_111 : Cond.selects "TimberValleyModel" ({ cls := "TimberValleyModel", name := "cellsOf", desc := "(I)I" } : MethodName) ({ cls := "TimberValleyModel", name := "cellsOf", desc := "(I)I" } : MethodName) ∈ gw := gw_m (lp_7 15 rfl) rfl
theorem kw_112 : Cond.selects "TimberValleyModel" ({ cls := "TimberValleyModel", name := "costs", desc := "(IIII)I" } : MethodName) ({ cls := "TimberValleyModel", name := "costs", desc := "(IIII)I" } : MethodName) ∈ gw := gw_m (lp_8 0 rfl) rfl
theorem kw_113 : Cond.selects "TimberValleyModel" ({ cls := "TimberValleyModel", name := "plansCuts", desc := "(I)V" } : MethodName) ({ cls := "TimberValleyModel", name := "plansCuts", desc := "(I)V" } : MethodName) ∈ gw := gw_m (lp_8 1 rfl) rfl
theorem kw_114 : Cond.selects "TimberValleyModel" ({ cls := "TimberValleyModel", name := "bestCut", desc := "(IIII)I" } : MethodName) ({ cls := "TimberValleyModel", name := "bestCut", desc := "(IIII)I" } : MethodName) ∈ gw := gw_m (lp_8 2 rfl) rfl
theorem kw_115 : Cond.selects "TimberValleyModel" ({ cls := "TimberValleyModel", name := "withCut", desc := "(IIIIIII)I" } : MethodName) ({ cls := "TimberValleyModel", name := "withCut", desc := "(IIIIIII)I" } : MethodName) ∈ gw := gw_m (lp_8 3 rfl) rfl
theorem kw_116 : Cond.selects "TimberValleyModel" ({ cls := "TimberValleyModel", name := "isPlace", desc := "(II)Z" } : MethodName) ({ cls := "TimberValleyModel", name := "isPlace", desc := "(II)Z" } : MethodName) ∈ gw := gw_m (lp_8 4 rfl) rfl
theorem kw_117 : Cond.selects "TimberValleyModel" ({ cls := "TimberValleyModel", name := "told", desc := "(II)I" } : MethodName) ({ cls := "TimberValleyModel", name := "told", desc := "(II)I" } : MethodName) ∈ gw := gw_m (lp_8 5 rfl) rfl
theorem kw_118 : Cond.selects "TimberValleyModel" ({ cls := "TimberValleyModel", name := "near", desc := "(III)V" } : MethodName) ({ cls := "TimberValleyModel", name := "near", desc := "(III)V" } : MethodName) ∈ gw := gw_m (lp_8 6 rfl) rfl
theorem kw_119 : Cond.initialized "TimberValleyLaw" ∈ gw := gw_m (lt_1 0 rfl) rfl
theorem kw_120 : Cond.initialized "TimberValley" ∈ gw := gw_m (lt_1 1 rfl) rfl
theorem kw_121 : Cond.initialized "TimberValley$Sky" ∈ gw := gw_m (lt_1 2 rfl) rfl
theorem kw_122 : Cond.initialized "TimberValley$Land" ∈ gw := gw_m (lt_1 3 rfl) rfl
theorem kw_123 : Cond.initialized "TimberValley$Bucking" ∈ gw := gw_m (lt_1 4 rfl) rfl
theorem kw_124 : Cond.initialized "TimberValley$Tape" ∈ gw := gw_m (lt_1 5 rfl) rfl
theorem kw_125 : Cond.initialized "TimberValley$Statutes" ∈ gw := gw_m (lt_1 6 rfl) rfl
theorem kw_126 : Cond.initialized "TimberValley$SawMill" ∈ gw := gw_m (lt_1 7 rfl) rfl
theorem kw_127 : Cond.initialized "TimberValley$Plans" ∈ gw := gw_m (lt_1 8 rfl) rfl
theorem kw_128 : Cond.initialized "TimberValley$Cruises" ∈ gw := gw_m (lt_1 9 rfl) rfl
theorem kw_129 : Cond.initialized "TimberValleyModel" ∈ gw := gw_m (lt_1 10 rfl) rfl
theorem kw_130 : Cond.initialized "java/lang/Math" ∈ gw := gw_m (lt_1 11 rfl) rfl
theorem kw_131 : Cond.initialized "TimberValley$Log" ∈ gw := gw_m (lt_1 12 rfl) rfl
theorem kw_132 : Cond.initialized "TimberValley$Way" ∈ gw := gw_m (lt_1 13 rfl) rfl
theorem kw_133 : Cond.initialized "java/lang/String" ∈ gw := gw_m (lt_1 14 rfl) rfl
theorem kw_134 : Cond.initialized "java/lang/StringLatin1" ∈ gw := gw_m (lt_1 15 rfl) rfl
theorem kw_135 : Cond.initialized "java/lang/StringUTF16" ∈ gw := gw_m (lt_1 16 rfl) rfl
theorem kw_136 : Cond.initialized "jdk/internal/util/Preconditions" ∈ gw := gw_m (lt_1 17 rfl) rfl
theorem kw_137 : Cond.initialized "java/lang/Character" ∈ gw := gw_m (lt_1 18 rfl) rfl
theorem kw_138 : Cond.initialized "TimberValley$Crew" ∈ gw := gw_m (lt_1 19 rfl) rfl
theorem kw_139 : Cond.initialized "java/lang/Throwable" ∈ gw := gw_m (lt_1 20 rfl) rfl
theorem kw_140 : Cond.initialized "java/lang/Exception" ∈ gw := gw_m (lt_1 21 rfl) rfl
theorem kw_141 : Cond.initialized "java/lang/RuntimeException" ∈ gw := gw_m (lt_1 22 rfl) rfl
theorem kw_142 : Cond.initialized "java/util/NoSuchElementException" ∈ gw := gw_m (lt_1 23 rfl) rfl
theorem kw_143 : Cond.initialized "java/lang/Integer" ∈ gw := gw_m (lt_1 24 rfl) rfl
theorem kw_144 : Cond.initialized "java/lang/System" ∈ gw := gw_m (lt_1 25 rfl) rfl
theorem kw_145 : Cond.classLink "TimberValleyLaw" 8 "TimberValley" ∈ gw := gw_m (lt_1 26 rfl) rfl
theorem kw_146 : Cond.instantiable "TimberValley" 20 ∈ gw := gw_m (lt_1 27 rfl) rfl
theorem kw_147 : Cond.methodLink "TimberValleyLaw" 21 ({ cls := "TimberValley", name := "<init>", desc := "()V" } : MethodName) ∈ gw := gw_m (lt_1 28 rfl) rfl
theorem kw_148 : Cond.instanceMethod ({ cls := "TimberValley", name := "<init>", desc := "()V" } : MethodName) ∈ gw := gw_m (lt_1 29 rfl) rfl
theorem kw_149 : Cond.code ({ cls := "TimberValley", name := "<init>", desc := "()V" } : MethodName) prog_1_method_1_code 1 (Option.none : Option FieldType) ∈ gw := gw_m (lt_1 30 rfl) rfl
theorem kw_150 : Cond.methodLink "TimberValley" 3 ({ cls := "java/lang/Object", name := "<init>", desc := "()V" } : MethodName) ∈ gw := gw_m (lt_1 31 rfl) rfl
theorem kw_151 : Cond.instanceMethod ({ cls := "java/lang/Object", name := "<init>", desc := "()V" } : MethodName) ∈ gw := gw_m (lt_1 32 rfl) rfl
theorem kw_152 : Cond.code ({ cls := "java/lang/Object", name := "<init>", desc := "()V" } : MethodName) object_method_1_code 1 (Option.none : Option FieldType) ∈ gw := gw_m (lt_1 33 rfl) rfl
theorem kw_153 : Cond.classLink "TimberValley" 9 "TimberValley$Sky" ∈ gw := gw_m (lt_1 34 rfl) rfl
theorem kw_154 : Cond.instantiable "TimberValley$Sky" 5 ∈ gw := gw_m (lt_1 35 rfl) rfl
theorem kw_155 : Cond.methodLinkNest "TimberValley" 11 ({ cls := "TimberValley$Sky", name := "<init>", desc := "()V" } : MethodName) "TimberValley" ∈ lw_tbl := lt_1 36 rfl
theorem kw_156 : Cond.instanceMethod ({ cls := "TimberValley$Sky", name := "<init>", desc := "()V" } : MethodName) ∈ gw := gw_m (lt_1 37 rfl) rfl
theorem kw_157 : Cond.code ({ cls := "TimberValley$Sky", name := "<init>", desc := "()V" } : MethodName) prog_9_method_1_code 1 (Option.none : Option FieldType) ∈ gw := gw_m (lt_1 38 rfl) rfl
theorem kw_158 : Cond.methodLink "TimberValley$Sky" 3 ({ cls := "java/lang/Object", name := "<init>", desc := "()V" } : MethodName) ∈ gw := gw_m (lt_1 39 rfl) rfl
theorem kw_159 : Cond.fieldLink "TimberValley$Sky" 11 "TimberValley$Sky" "days" "[I" ∈ gw := gw_m (lt_1 40 rfl) rfl
theorem kw_160 : Cond.fieldLink "TimberValley$Sky" 15 "TimberValley$Sky" "values" "[I" ∈ gw := gw_m (lt_1 41 rfl) rfl
theorem kw_161 : Cond.fieldLink "TimberValley$Sky" 18 "TimberValley$Sky" "many" "I" ∈ gw := gw_m (lt_1 42 rfl) rfl
theorem kw_162 : Cond.fieldLink "TimberValley$Sky" 22 "TimberValley$Sky" "today" "I" ∈ gw := gw_m (lt_1 43 rfl) rfl
theorem kw_163 : Cond.fieldLinkNest "TimberValley$Way" 54 "TimberValley$Sky" "today" "I" "TimberValley" ∈ lw_tbl := lt_1 44 rfl
theorem kw_164 : Cond.fieldLinkNest "TimberValley" 196 "TimberValley$Sky" "today" "I" "TimberValley" ∈ lw_tbl := lt_1 45 rfl
theorem kw_165 : Cond.fieldLinkNest "TimberValley$Statutes" 146 "TimberValley$Sky" "today" "I" "TimberValley" ∈ lw_tbl := lt_1 46 rfl
theorem kw_166 : Cond.fieldLink "TimberValley$Sky" 25 "TimberValley$Sky" "current" "I" ∈ gw := gw_m (lt_1 47 rfl) rfl
theorem kw_167 : Cond.laysFinal "TimberValley$Sky" "TimberValley$Sky" "days" "[I" ∈ gw := gw_m (lt_1 48 rfl) rfl
theorem kw_169 : Cond.laysFinal "TimberValley$Sky" "TimberValley$Sky" "values" "[I" ∈ gw := gw_m (lt_1 50 rfl) rfl
theorem kw_171 : Cond.lays "TimberValley$Sky" "TimberValley$Sky" "many" "I" ∈ gw := gw_m (lt_1 52 rfl) rfl
theorem kw_173 : Cond.lays "TimberValley$Sky" "TimberValley$Sky" "today" "I" ∈ gw := gw_m (lt_1 54 rfl) rfl
theorem kw_175 : Cond.lays "TimberValley$Sky" "TimberValley$Sky" "current" "I" ∈ gw := gw_m (lt_1 56 rfl) rfl
theorem kw_178 : Cond.arrayClass FieldType.int ∈ gw := gw_m (lt_1 59 rfl) rfl
theorem kw_179 : Cond.classLink "TimberValley" 16 "TimberValley$Land" ∈ gw := gw_m (lt_1 60 rfl) rfl
theorem kw_180 : Cond.instantiable "TimberValley$Land" 8 ∈ gw := gw_m (lt_1 61 rfl) rfl
theorem kw_181 : Cond.methodLinkNest "TimberValley" 18 ({ cls := "TimberValley$Land", name := "<init>", desc := "()V" } : MethodName) "TimberValley" ∈ lw_tbl := lt_1 62 rfl
theorem kw_182 : Cond.instanceMethod ({ cls := "TimberValley$Land", name := "<init>", desc := "()V" } : MethodName) ∈ gw := gw_m (lt_1 63 rfl) rfl
theorem kw_183 : Cond.code ({ cls := "TimberValley$Land", name := "<init>", desc := "()V" } : MethodName) prog_5_method_1_code 1 (Option.none : Option FieldType) ∈ gw := gw_m (lt_1 64 rfl) rfl
theorem kw_184 : Cond.methodLink "TimberValley$Land" 3 ({ cls := "java/lang/Object", name := "<init>", desc := "()V" } : MethodName) ∈ gw := gw_m (lt_1 65 rfl) rfl
theorem kw_185 : Cond.fieldLink "TimberValley$Land" 9 "TimberValley$Land" "height" "[I" ∈ gw := gw_m (lt_1 66 rfl) rfl
theorem kw_186 : Cond.fieldLinkNest "TimberValley$Way" 28 "TimberValley$Land" "height" "[I" "TimberValley" ∈ lw_tbl := lt_1 67 rfl
theorem kw_187 : Cond.fieldLinkNest "TimberValley" 120 "TimberValley$Land" "height" "[I" "TimberValley" ∈ lw_tbl := lt_1 68 rfl
theorem kw_188 : Cond.fieldLinkNest "TimberValley$Statutes" 153 "TimberValley$Land" "height" "[I" "TimberValley" ∈ lw_tbl := lt_1 69 rfl
theorem kw_189 : Cond.fieldLink "TimberValley$Land" 15 "TimberValley$Land" "slash" "[I" ∈ gw := gw_m (lt_1 70 rfl) rfl
theorem kw_190 : Cond.fieldLinkNest "TimberValley" 154 "TimberValley$Land" "slash" "[I" "TimberValley" ∈ lw_tbl := lt_1 71 rfl
theorem kw_191 : Cond.fieldLinkNest "TimberValley$Statutes" 161 "TimberValley$Land" "slash" "[I" "TimberValley" ∈ lw_tbl := lt_1 72 rfl
theorem kw_192 : Cond.fieldLink "TimberValley$Land" 18 "TimberValley$Land" "stems" "[I" ∈ gw := gw_m (lt_1 73 rfl) rfl
theorem kw_193 : Cond.fieldLinkNest "TimberValley" 127 "TimberValley$Land" "stems" "[I" "TimberValley" ∈ lw_tbl := lt_1 74 rfl
theorem kw_194 : Cond.fieldLink "TimberValley$Land" 21 "TimberValley$Land" "logsLying" "[I" ∈ gw := gw_m (lt_1 75 rfl) rfl
theorem kw_195 : Cond.fieldLinkNest "TimberValley" 157 "TimberValley$Land" "logsLying" "[I" "TimberValley" ∈ lw_tbl := lt_1 76 rfl
theorem kw_196 : Cond.fieldLink "TimberValley$Land" 24 "TimberValley$Land" "grow" "[I" ∈ gw := gw_m (lt_1 77 rfl) rfl
theorem kw_197 : Cond.fieldLinkNest "TimberValley" 134 "TimberValley$Land" "grow" "[I" "TimberValley" ∈ lw_tbl := lt_1 78 rfl
theorem kw_198 : Cond.fieldLink "TimberValley$Land" 27 "TimberValley$Land" "taper" "[I" ∈ gw := gw_m (lt_1 79 rfl) rfl
theorem kw_199 : Cond.fieldLinkNest "TimberValley" 137 "TimberValley$Land" "taper" "[I" "TimberValley" ∈ lw_tbl := lt_1 80 rfl
theorem kw_200 : Cond.fieldLink "TimberValley$Land" 30 "TimberValley$Land" "millCell" "I" ∈ gw := gw_m (lt_1 81 rfl) rfl
theorem kw_201 : Cond.fieldLinkNest "TimberValley" 140 "TimberValley$Land" "millCell" "I" "TimberValley" ∈ lw_tbl := lt_1 82 rfl
theorem kw_202 : Cond.fieldLink "TimberValley$Land" 34 "TimberValley$Land" "burntAt" "[I" ∈ gw := gw_m (lt_1 83 rfl) rfl
theorem kw_203 : Cond.fieldLinkNest "TimberValley" 422 "TimberValley$Land" "burntAt" "[I" "TimberValley" ∈ lw_tbl := lt_1 84 rfl
theorem kw_204 : Cond.laysFinal "TimberValley$Land" "TimberValley$Land" "height" "[I" ∈ gw := gw_m (lt_1 85 rfl) rfl
theorem kw_206 : Cond.laysFinal "TimberValley$Land" "TimberValley$Land" "slash" "[I" ∈ gw := gw_m (lt_1 87 rfl) rfl
theorem kw_208 : Cond.laysFinal "TimberValley$Land" "TimberValley$Land" "stems" "[I" ∈ gw := gw_m (lt_1 89 rfl) rfl
theorem kw_210 : Cond.laysFinal "TimberValley$Land" "TimberValley$Land" "logsLying" "[I" ∈ gw := gw_m (lt_1 91 rfl) rfl
theorem kw_212 : Cond.laysFinal "TimberValley$Land" "TimberValley$Land" "grow" "[I" ∈ gw := gw_m (lt_1 93 rfl) rfl
theorem kw_214 : Cond.laysFinal "TimberValley$Land" "TimberValley$Land" "taper" "[I" ∈ gw := gw_m (lt_1 95 rfl) rfl
theorem kw_216 : Cond.lays "TimberValley$Land" "TimberValley$Land" "millCell" "I" ∈ gw := gw_m (lt_1 97 rfl) rfl
theorem kw_218 : Cond.laysFinal "TimberValley$Land" "TimberValley$Land" "burntAt" "[I" ∈ gw := gw_m (lt_1 99 rfl) rfl
theorem kw_221 : Cond.classLink "TimberValley" 23 "TimberValley$Bucking" ∈ gw := gw_m (lt_1 102 rfl) rfl
theorem kw_222 : Cond.instantiable "TimberValley$Bucking" 5 ∈ gw := gw_m (lt_1 103 rfl) rfl
theorem kw_223 : Cond.methodLinkNest "TimberValley" 25 ({ cls := "TimberValley$Bucking", name := "<init>", desc := "()V" } : MethodName) "TimberValley" ∈ lw_tbl := lt_1 104 rfl
theorem kw_224 : Cond.instanceMethod ({ cls := "TimberValley$Bucking", name := "<init>", desc := "()V" } : MethodName) ∈ gw := gw_m (lt_1 105 rfl) rfl
theorem kw_225 : Cond.code ({ cls := "TimberValley$Bucking", name := "<init>", desc := "()V" } : MethodName) prog_2_method_1_code 1 (Option.none : Option FieldType) ∈ gw := gw_m (lt_1 106 rfl) rfl
theorem kw_226 : Cond.methodLink "TimberValley$Bucking" 5 ({ cls := "java/lang/Object", name := "<init>", desc := "()V" } : MethodName) ∈ gw := gw_m (lt_1 107 rfl) rfl
theorem kw_227 : Cond.fieldLink "TimberValley$Bucking" 11 "TimberValley$Bucking" "prices" "[I" ∈ gw := gw_m (lt_1 108 rfl) rfl
theorem kw_228 : Cond.fieldLinkNest "TimberValley" 167 "TimberValley$Bucking" "prices" "[I" "TimberValley" ∈ lw_tbl := lt_1 109 rfl
theorem kw_229 : Cond.fieldLink "TimberValley$Bucking" 15 "TimberValley$Bucking" "sums" "[I" ∈ gw := gw_m (lt_1 110 rfl) rfl
theorem kw_230 : Cond.fieldLink "TimberValley$Bucking" 18 "TimberValley$Bucking" "picks" "[I" ∈ gw := gw_m (lt_1 111 rfl) rfl
theorem kw_231 : Cond.fieldLink "TimberValley$Bucking" 21 "TimberValley$Bucking" "pieces" "[I" ∈ gw := gw_m (lt_1 112 rfl) rfl
theorem kw_232 : Cond.fieldLinkNest "TimberValley" 177 "TimberValley$Bucking" "pieces" "[I" "TimberValley" ∈ lw_tbl := lt_1 113 rfl
theorem kw_233 : Cond.fieldLink "TimberValley$Bucking" 24 "TimberValley$Bucking" "many" "I" ∈ gw := gw_m (lt_1 114 rfl) rfl
theorem kw_234 : Cond.fieldLinkNest "TimberValley" 174 "TimberValley$Bucking" "many" "I" "TimberValley" ∈ lw_tbl := lt_1 115 rfl
theorem kw_235 : Cond.laysFinal "TimberValley$Bucking" "TimberValley$Bucking" "prices" "[I" ∈ gw := gw_m (lt_1 116 rfl) rfl
theorem kw_237 : Cond.laysFinal "TimberValley$Bucking" "TimberValley$Bucking" "sums" "[I" ∈ gw := gw_m (lt_1 118 rfl) rfl
theorem kw_239 : Cond.laysFinal "TimberValley$Bucking" "TimberValley$Bucking" "picks" "[I" ∈ gw := gw_m (lt_1 120 rfl) rfl
theorem kw_241 : Cond.laysFinal "TimberValley$Bucking" "TimberValley$Bucking" "pieces" "[I" ∈ gw := gw_m (lt_1 122 rfl) rfl
theorem kw_243 : Cond.lays "TimberValley$Bucking" "TimberValley$Bucking" "many" "I" ∈ gw := gw_m (lt_1 124 rfl) rfl
theorem kw_246 : Cond.classLink "TimberValley" 30 "TimberValley$Log" ∈ gw := gw_m (lt_1 127 rfl) rfl
theorem kw_247 : Cond.arrayOver (FieldType.object "TimberValley$Log") ∈ lw_tbl := lt_1 128 rfl
theorem kw_248 : Cond.classLink "TimberValley" 40 "TimberValley$Way" ∈ gw := gw_m (lt_1 129 rfl) rfl
theorem kw_249 : Cond.arrayOver (FieldType.object "TimberValley$Way") ∈ lw_tbl := lt_1 130 rfl
theorem kw_250 : Cond.classLink "TimberValley" 52 "TimberValley$Tape" ∈ gw := gw_m (lt_1 131 rfl) rfl
theorem kw_251 : Cond.instantiable "TimberValley$Tape" 5 ∈ gw := gw_m (lt_1 132 rfl) rfl
theorem kw_252 : Cond.methodLinkNest "TimberValley" 54 ({ cls := "TimberValley$Tape", name := "<init>", desc := "()V" } : MethodName) "TimberValley" ∈ lw_tbl := lt_1 133 rfl
theorem kw_253 : Cond.instanceMethod ({ cls := "TimberValley$Tape", name := "<init>", desc := "()V" } : MethodName) ∈ gw := gw_m (lt_1 134 rfl) rfl
theorem kw_254 : Cond.code ({ cls := "TimberValley$Tape", name := "<init>", desc := "()V" } : MethodName) prog_11_method_1_code 1 (Option.none : Option FieldType) ∈ gw := gw_m (lt_1 135 rfl) rfl
theorem kw_255 : Cond.methodLink "TimberValley$Tape" 3 ({ cls := "java/lang/Object", name := "<init>", desc := "()V" } : MethodName) ∈ gw := gw_m (lt_1 136 rfl) rfl
theorem kw_256 : Cond.fieldLink "TimberValley$Tape" 11 "TimberValley$Tape" "bytes" "[I" ∈ gw := gw_m (lt_1 137 rfl) rfl
theorem kw_257 : Cond.fieldLink "TimberValley$Tape" 15 "TimberValley$Tape" "size" "I" ∈ gw := gw_m (lt_1 138 rfl) rfl
theorem kw_258 : Cond.fieldLinkNest "TimberValley$Statutes" 57 "TimberValley$Tape" "size" "I" "TimberValley" ∈ lw_tbl := lt_1 139 rfl
theorem kw_259 : Cond.fieldLinkNest "TimberValley" 326 "TimberValley$Tape" "size" "I" "TimberValley" ∈ lw_tbl := lt_1 140 rfl
theorem kw_260 : Cond.fieldLink "TimberValley$Tape" 19 "TimberValley$Tape" "kind" "I" ∈ gw := gw_m (lt_1 141 rfl) rfl
theorem kw_261 : Cond.fieldLink "TimberValley$Tape" 22 "TimberValley$Tape" "tokenFrom" "I" ∈ gw := gw_m (lt_1 142 rfl) rfl
theorem kw_262 : Cond.fieldLinkNest "TimberValley$Statutes" 138 "TimberValley$Tape" "tokenFrom" "I" "TimberValley" ∈ lw_tbl := lt_1 143 rfl
theorem kw_263 : Cond.fieldLink "TimberValley$Tape" 25 "TimberValley$Tape" "tokenTo" "I" ∈ gw := gw_m (lt_1 144 rfl) rfl
theorem kw_264 : Cond.laysFinal "TimberValley$Tape" "TimberValley$Tape" "bytes" "[I" ∈ gw := gw_m (lt_1 145 rfl) rfl
theorem kw_266 : Cond.lays "TimberValley$Tape" "TimberValley$Tape" "size" "I" ∈ gw := gw_m (lt_1 147 rfl) rfl
theorem kw_268 : Cond.lays "TimberValley$Tape" "TimberValley$Tape" "kind" "I" ∈ gw := gw_m (lt_1 149 rfl) rfl
theorem kw_270 : Cond.lays "TimberValley$Tape" "TimberValley$Tape" "tokenFrom" "I" ∈ gw := gw_m (lt_1 151 rfl) rfl
theorem kw_272 : Cond.lays "TimberValley$Tape" "TimberValley$Tape" "tokenTo" "I" ∈ gw := gw_m (lt_1 153 rfl) rfl
theorem kw_275 : Cond.classLink "TimberValley" 59 "TimberValley$Statutes" ∈ gw := gw_m (lt_1 156 rfl) rfl
theorem kw_276 : Cond.instantiable "TimberValley$Statutes" 13 ∈ gw := gw_m (lt_1 157 rfl) rfl
theorem kw_277 : Cond.methodLinkNest "TimberValley" 61 ({ cls := "TimberValley$Statutes", name := "<init>", desc := "()V" } : MethodName) "TimberValley" ∈ lw_tbl := lt_1 158 rfl
theorem kw_278 : Cond.instanceMethod ({ cls := "TimberValley$Statutes", name := "<init>", desc := "()V" } : MethodName) ∈ gw := gw_m (lt_1 159 rfl) rfl
theorem kw_279 : Cond.code ({ cls := "TimberValley$Statutes", name := "<init>", desc := "()V" } : MethodName) prog_10_method_1_code 1 (Option.none : Option FieldType) ∈ gw := gw_m (lt_1 160 rfl) rfl
theorem kw_280 : Cond.methodLink "TimberValley$Statutes" 5 ({ cls := "java/lang/Object", name := "<init>", desc := "()V" } : MethodName) ∈ gw := gw_m (lt_1 161 rfl) rfl
theorem kw_281 : Cond.fieldLink "TimberValley$Statutes" 11 "TimberValley$Statutes" "begins" "[I" ∈ gw := gw_m (lt_1 162 rfl) rfl
theorem kw_282 : Cond.fieldLink "TimberValley$Statutes" 15 "TimberValley$Statutes" "lengths" "[I" ∈ gw := gw_m (lt_1 163 rfl) rfl
theorem kw_283 : Cond.fieldLink "TimberValley$Statutes" 18 "TimberValley$Statutes" "verbs" "[I" ∈ gw := gw_m (lt_1 164 rfl) rfl
theorem kw_284 : Cond.fieldLink "TimberValley$Statutes" 21 "TimberValley$Statutes" "objects" "[I" ∈ gw := gw_m (lt_1 165 rfl) rfl
theorem kw_285 : Cond.fieldLink "TimberValley$Statutes" 24 "TimberValley$Statutes" "terms" "[I" ∈ gw := gw_m (lt_1 166 rfl) rfl
theorem kw_286 : Cond.fieldLink "TimberValley$Statutes" 27 "TimberValley$Statutes" "negated" "[Z" ∈ gw := gw_m (lt_1 167 rfl) rfl
theorem kw_287 : Cond.fieldLink "TimberValley$Statutes" 31 "TimberValley$Statutes" "words" "[I" ∈ gw := gw_m (lt_1 168 rfl) rfl
theorem kw_288 : Cond.fieldLink "TimberValley$Statutes" 34 "TimberValley$Statutes" "relations" "[I" ∈ gw := gw_m (lt_1 169 rfl) rfl
theorem kw_289 : Cond.fieldLink "TimberValley$Statutes" 37 "TimberValley$Statutes" "values" "[I" ∈ gw := gw_m (lt_1 170 rfl) rfl
theorem kw_290 : Cond.fieldLink "TimberValley$Statutes" 40 "TimberValley$Statutes" "asked" "[I" ∈ gw := gw_m (lt_1 171 rfl) rfl
theorem kw_291 : Cond.fieldLinkNest "TimberValley" 348 "TimberValley$Statutes" "asked" "[I" "TimberValley" ∈ lw_tbl := lt_1 172 rfl
theorem kw_292 : Cond.fieldLink "TimberValley$Statutes" 43 "TimberValley$Statutes" "texts" "I" ∈ gw := gw_m (lt_1 173 rfl) rfl
theorem kw_293 : Cond.fieldLinkNest "TimberValley" 332 "TimberValley$Statutes" "texts" "I" "TimberValley" ∈ lw_tbl := lt_1 174 rfl
theorem kw_294 : Cond.fieldLink "TimberValley$Statutes" 47 "TimberValley$Statutes" "faultKind" "I" ∈ gw := gw_m (lt_1 175 rfl) rfl
theorem kw_295 : Cond.fieldLink "TimberValley$Statutes" 50 "TimberValley$Statutes" "faultPlace" "I" ∈ gw := gw_m (lt_1 176 rfl) rfl
theorem kw_296 : Cond.fieldLinkNest "TimberValley" 338 "TimberValley$Statutes" "faultPlace" "I" "TimberValley" ∈ lw_tbl := lt_1 177 rfl
theorem kw_297 : Cond.laysFinal "TimberValley$Statutes" "TimberValley$Statutes" "begins" "[I" ∈ gw := gw_m (lt_1 178 rfl) rfl
theorem kw_299 : Cond.laysFinal "TimberValley$Statutes" "TimberValley$Statutes" "lengths" "[I" ∈ gw := gw_m (lt_1 180 rfl) rfl
theorem kw_301 : Cond.laysFinal "TimberValley$Statutes" "TimberValley$Statutes" "verbs" "[I" ∈ gw := gw_m (lt_1 182 rfl) rfl
theorem kw_303 : Cond.laysFinal "TimberValley$Statutes" "TimberValley$Statutes" "objects" "[I" ∈ gw := gw_m (lt_1 184 rfl) rfl
theorem kw_305 : Cond.laysFinal "TimberValley$Statutes" "TimberValley$Statutes" "terms" "[I" ∈ gw := gw_m (lt_1 186 rfl) rfl
theorem kw_307 : Cond.laysFinal "TimberValley$Statutes" "TimberValley$Statutes" "negated" "[Z" ∈ gw := gw_m (lt_1 188 rfl) rfl
theorem kw_309 : Cond.laysFinal "TimberValley$Statutes" "TimberValley$Statutes" "words" "[I" ∈ gw := gw_m (lt_1 190 rfl) rfl
theorem kw_311 : Cond.laysFinal "TimberValley$Statutes" "TimberValley$Statutes" "relations" "[I" ∈ gw := gw_m (lt_1 192 rfl) rfl
theorem kw_313 : Cond.laysFinal "TimberValley$Statutes" "TimberValley$Statutes" "values" "[I" ∈ gw := gw_m (lt_1 194 rfl) rfl
theorem kw_315 : Cond.laysFinal "TimberValley$Statutes" "TimberValley$Statutes" "asked" "[I" ∈ gw := gw_m (lt_1 196 rfl) rfl
theorem kw_317 : Cond.lays "TimberValley$Statutes" "TimberValley$Statutes" "texts" "I" ∈ gw := gw_m (lt_1 198 rfl) rfl
theorem kw_319 : Cond.lays "TimberValley$Statutes" "TimberValley$Statutes" "faultKind" "I" ∈ gw := gw_m (lt_1 200 rfl) rfl
theorem kw_321 : Cond.lays "TimberValley$Statutes" "TimberValley$Statutes" "faultPlace" "I" ∈ gw := gw_m (lt_1 202 rfl) rfl
theorem kw_324 : Cond.arrayClass FieldType.boolean ∈ gw := gw_m (lt_1 205 rfl) rfl
theorem kw_325 : Cond.classLink "TimberValley" 66 "TimberValley$Crew" ∈ gw := gw_m (lt_1 206 rfl) rfl
theorem kw_326 : Cond.arrayOver (FieldType.object "TimberValley$Crew") ∈ lw_tbl := lt_1 207 rfl
theorem kw_327 : Cond.classLink "TimberValley" 91 "TimberValley$SawMill" ∈ gw := gw_m (lt_1 208 rfl) rfl
theorem kw_328 : Cond.instantiable "TimberValley$SawMill" 11 ∈ gw := gw_m (lt_1 209 rfl) rfl
theorem kw_329 : Cond.methodLinkNest "TimberValley" 93 ({ cls := "TimberValley$SawMill", name := "<init>", desc := "()V" } : MethodName) "TimberValley" ∈ lw_tbl := lt_1 210 rfl
theorem kw_330 : Cond.instanceMethod ({ cls := "TimberValley$SawMill", name := "<init>", desc := "()V" } : MethodName) ∈ gw := gw_m (lt_1 211 rfl) rfl
theorem kw_331 : Cond.code ({ cls := "TimberValley$SawMill", name := "<init>", desc := "()V" } : MethodName) prog_8_method_1_code 1 (Option.none : Option FieldType) ∈ gw := gw_m (lt_1 212 rfl) rfl
theorem kw_332 : Cond.methodLink "TimberValley$SawMill" 3 ({ cls := "java/lang/Object", name := "<init>", desc := "()V" } : MethodName) ∈ gw := gw_m (lt_1 213 rfl) rfl
theorem kw_333 : Cond.fieldLink "TimberValley$SawMill" 11 "TimberValley$SawMill" "thick" "[I" ∈ gw := gw_m (lt_1 214 rfl) rfl
theorem kw_334 : Cond.fieldLink "TimberValley$SawMill" 15 "TimberValley$SawMill" "units" "[I" ∈ gw := gw_m (lt_1 215 rfl) rfl
theorem kw_335 : Cond.fieldLink "TimberValley$SawMill" 18 "TimberValley$SawMill" "lacks" "[I" ∈ gw := gw_m (lt_1 216 rfl) rfl
theorem kw_336 : Cond.fieldLinkNest "TimberValley" 407 "TimberValley$SawMill" "lacks" "[I" "TimberValley" ∈ lw_tbl := lt_1 217 rfl
theorem kw_337 : Cond.fieldLink "TimberValley$SawMill" 21 "TimberValley$SawMill" "prices" "[I" ∈ gw := gw_m (lt_1 218 rfl) rfl
theorem kw_338 : Cond.fieldLink "TimberValley$SawMill" 24 "TimberValley$SawMill" "ship" "[I" ∈ gw := gw_m (lt_1 219 rfl) rfl
theorem kw_339 : Cond.fieldLinkNest "TimberValley" 410 "TimberValley$SawMill" "ship" "[I" "TimberValley" ∈ lw_tbl := lt_1 220 rfl
theorem kw_340 : Cond.fieldLink "TimberValley$SawMill" 27 "TimberValley$SawMill" "metDay" "[I" ∈ gw := gw_m (lt_1 221 rfl) rfl
theorem kw_341 : Cond.fieldLinkNest "TimberValley" 404 "TimberValley$SawMill" "metDay" "[I" "TimberValley" ∈ lw_tbl := lt_1 222 rfl
theorem kw_342 : Cond.fieldLink "TimberValley$SawMill" 30 "TimberValley$SawMill" "many" "I" ∈ gw := gw_m (lt_1 223 rfl) rfl
theorem kw_343 : Cond.fieldLinkNest "TimberValley" 384 "TimberValley$SawMill" "many" "I" "TimberValley" ∈ lw_tbl := lt_1 224 rfl
theorem kw_344 : Cond.fieldLink "TimberValley$SawMill" 34 "TimberValley$SawMill" "stock" "I" ∈ gw := gw_m (lt_1 225 rfl) rfl
theorem kw_345 : Cond.fieldLinkNest "TimberValley" 493 "TimberValley$SawMill" "stock" "I" "TimberValley" ∈ lw_tbl := lt_1 226 rfl
theorem kw_346 : Cond.fieldLink "TimberValley$SawMill" 37 "TimberValley$SawMill" "sums" "[I" ∈ gw := gw_m (lt_1 227 rfl) rfl
theorem kw_347 : Cond.fieldLinkNest "TimberValley" 395 "TimberValley$SawMill" "sums" "[I" "TimberValley" ∈ lw_tbl := lt_1 228 rfl
theorem kw_348 : Cond.fieldLink "TimberValley$SawMill" 40 "TimberValley$SawMill" "picks" "[I" ∈ gw := gw_m (lt_1 229 rfl) rfl
theorem kw_349 : Cond.fieldLink "TimberValley$SawMill" 43 "TimberValley$SawMill" "begun" "[I" ∈ gw := gw_m (lt_1 230 rfl) rfl
theorem kw_350 : Cond.fieldLinkNest "TimberValley" 398 "TimberValley$SawMill" "begun" "[I" "TimberValley" ∈ lw_tbl := lt_1 231 rfl
theorem kw_351 : Cond.laysFinal "TimberValley$SawMill" "TimberValley$SawMill" "thick" "[I" ∈ gw := gw_m (lt_1 232 rfl) rfl
theorem kw_353 : Cond.laysFinal "TimberValley$SawMill" "TimberValley$SawMill" "units" "[I" ∈ gw := gw_m (lt_1 234 rfl) rfl
theorem kw_355 : Cond.laysFinal "TimberValley$SawMill" "TimberValley$SawMill" "lacks" "[I" ∈ gw := gw_m (lt_1 236 rfl) rfl
theorem kw_357 : Cond.laysFinal "TimberValley$SawMill" "TimberValley$SawMill" "prices" "[I" ∈ gw := gw_m (lt_1 238 rfl) rfl
theorem kw_359 : Cond.laysFinal "TimberValley$SawMill" "TimberValley$SawMill" "ship" "[I" ∈ gw := gw_m (lt_2 0 rfl) rfl
theorem kw_361 : Cond.laysFinal "TimberValley$SawMill" "TimberValley$SawMill" "metDay" "[I" ∈ gw := gw_m (lt_2 2 rfl) rfl
theorem kw_363 : Cond.lays "TimberValley$SawMill" "TimberValley$SawMill" "many" "I" ∈ gw := gw_m (lt_2 4 rfl) rfl
theorem kw_365 : Cond.lays "TimberValley$SawMill" "TimberValley$SawMill" "stock" "I" ∈ gw := gw_m (lt_2 6 rfl) rfl
theorem kw_367 : Cond.laysFinal "TimberValley$SawMill" "TimberValley$SawMill" "sums" "[I" ∈ gw := gw_m (lt_2 8 rfl) rfl
theorem kw_369 : Cond.laysFinal "TimberValley$SawMill" "TimberValley$SawMill" "picks" "[I" ∈ gw := gw_m (lt_2 10 rfl) rfl
theorem kw_371 : Cond.laysFinal "TimberValley$SawMill" "TimberValley$SawMill" "begun" "[I" ∈ gw := gw_m (lt_2 12 rfl) rfl
theorem kw_374 : Cond.classLink "TimberValley" 98 "TimberValley$Plans" ∈ gw := gw_m (lt_2 15 rfl) rfl
theorem kw_375 : Cond.instantiable "TimberValley$Plans" 17 ∈ gw := gw_m (lt_2 16 rfl) rfl
theorem kw_376 : Cond.methodLinkNest "TimberValley" 100 ({ cls := "TimberValley$Plans", name := "<init>", desc := "()V" } : MethodName) "TimberValley" ∈ lw_tbl := lt_2 17 rfl
theorem kw_377 : Cond.instanceMethod ({ cls := "TimberValley$Plans", name := "<init>", desc := "()V" } : MethodName) ∈ gw := gw_m (lt_2 18 rfl) rfl
theorem kw_378 : Cond.code ({ cls := "TimberValley$Plans", name := "<init>", desc := "()V" } : MethodName) prog_7_method_1_code 1 (Option.none : Option FieldType) ∈ gw := gw_m (lt_2 19 rfl) rfl
theorem kw_379 : Cond.methodLink "TimberValley$Plans" 5 ({ cls := "java/lang/Object", name := "<init>", desc := "()V" } : MethodName) ∈ gw := gw_m (lt_2 20 rfl) rfl
theorem kw_380 : Cond.classLink "TimberValley$Plans" 37 "[[I" ∈ gw := gw_m (lt_2 21 rfl) rfl
theorem kw_381 : Cond.arrayOver (FieldType.array FieldType.int) ∈ lw_tbl := lt_2 22 rfl
theorem kw_382 : Cond.fieldLink "TimberValley$Plans" 11 "TimberValley$Plans" "spurCells" "[I" ∈ gw := gw_m (lt_2 23 rfl) rfl
theorem kw_383 : Cond.fieldLink "TimberValley$Plans" 15 "TimberValley$Plans" "spurIron" "[I" ∈ gw := gw_m (lt_2 24 rfl) rfl
theorem kw_384 : Cond.fieldLink "TimberValley$Plans" 18 "TimberValley$Plans" "spurCost" "[I" ∈ gw := gw_m (lt_2 25 rfl) rfl
theorem kw_385 : Cond.fieldLink "TimberValley$Plans" 21 "TimberValley$Plans" "spurs" "I" ∈ gw := gw_m (lt_2 26 rfl) rfl
theorem kw_386 : Cond.fieldLinkNest "TimberValley" 425 "TimberValley$Plans" "spurs" "I" "TimberValley" ∈ lw_tbl := lt_2 27 rfl
theorem kw_387 : Cond.fieldLink "TimberValley$Plans" 25 "TimberValley$Plans" "reached" "[I" ∈ gw := gw_m (lt_2 28 rfl) rfl
theorem kw_388 : Cond.fieldLinkNest "TimberValley" 431 "TimberValley$Plans" "reached" "[I" "TimberValley" ∈ lw_tbl := lt_2 29 rfl
theorem kw_389 : Cond.fieldLink "TimberValley$Plans" 28 "TimberValley$Plans" "setCells" "[I" ∈ gw := gw_m (lt_2 30 rfl) rfl
theorem kw_390 : Cond.fieldLink "TimberValley$Plans" 31 "TimberValley$Plans" "setIron" "[I" ∈ gw := gw_m (lt_2 31 rfl) rfl
theorem kw_391 : Cond.fieldLink "TimberValley$Plans" 34 "TimberValley$Plans" "setCost" "[I" ∈ gw := gw_m (lt_2 32 rfl) rfl
theorem kw_392 : Cond.fieldLink "TimberValley$Plans" 39 "TimberValley$Plans" "from" "[[I" ∈ gw := gw_m (lt_2 33 rfl) rfl
theorem kw_393 : Cond.fieldLink "TimberValley$Plans" 42 "TimberValley$Plans" "ahead" "[I" ∈ gw := gw_m (lt_2 34 rfl) rfl
theorem kw_394 : Cond.fieldLink "TimberValley$Plans" 45 "TimberValley$Plans" "chosen" "[I" ∈ gw := gw_m (lt_2 35 rfl) rfl
theorem kw_395 : Cond.fieldLinkNest "TimberValley" 437 "TimberValley$Plans" "chosen" "[I" "TimberValley" ∈ lw_tbl := lt_2 36 rfl
theorem kw_396 : Cond.fieldLink "TimberValley$Plans" 48 "TimberValley$Plans" "start" "[I" ∈ gw := gw_m (lt_2 37 rfl) rfl
theorem kw_397 : Cond.fieldLink "TimberValley$Plans" 51 "TimberValley$Plans" "yields" "[[I" ∈ gw := gw_m (lt_2 38 rfl) rfl
theorem kw_398 : Cond.fieldLink "TimberValley$Plans" 54 "TimberValley$Plans" "cut3" "I" ∈ gw := gw_m (lt_2 39 rfl) rfl
theorem kw_399 : Cond.fieldLink "TimberValley$Plans" 57 "TimberValley$Plans" "cut2" "I" ∈ gw := gw_m (lt_2 40 rfl) rfl
theorem kw_400 : Cond.fieldLink "TimberValley$Plans" 60 "TimberValley$Plans" "cuts" "[I" ∈ gw := gw_m (lt_2 41 rfl) rfl
theorem kw_401 : Cond.fieldLinkNest "TimberValley" 449 "TimberValley$Plans" "cuts" "[I" "TimberValley" ∈ lw_tbl := lt_2 42 rfl
theorem kw_402 : Cond.fieldLink "TimberValley$Plans" 63 "TimberValley$Plans" "cutsTold" "Z" ∈ gw := gw_m (lt_2 43 rfl) rfl
theorem kw_403 : Cond.fieldLinkNest "TimberValley" 446 "TimberValley$Plans" "cutsTold" "Z" "TimberValley" ∈ lw_tbl := lt_2 44 rfl
theorem kw_404 : Cond.laysFinal "TimberValley$Plans" "TimberValley$Plans" "spurCells" "[I" ∈ gw := gw_m (lt_2 45 rfl) rfl
theorem kw_406 : Cond.laysFinal "TimberValley$Plans" "TimberValley$Plans" "spurIron" "[I" ∈ gw := gw_m (lt_2 47 rfl) rfl
theorem kw_408 : Cond.laysFinal "TimberValley$Plans" "TimberValley$Plans" "spurCost" "[I" ∈ gw := gw_m (lt_2 49 rfl) rfl
theorem kw_410 : Cond.lays "TimberValley$Plans" "TimberValley$Plans" "spurs" "I" ∈ gw := gw_m (lt_2 51 rfl) rfl
theorem kw_412 : Cond.laysFinal "TimberValley$Plans" "TimberValley$Plans" "reached" "[I" ∈ gw := gw_m (lt_2 53 rfl) rfl
theorem kw_414 : Cond.laysFinal "TimberValley$Plans" "TimberValley$Plans" "setCells" "[I" ∈ gw := gw_m (lt_2 55 rfl) rfl
theorem kw_416 : Cond.laysFinal "TimberValley$Plans" "TimberValley$Plans" "setIron" "[I" ∈ gw := gw_m (lt_2 57 rfl) rfl
theorem kw_418 : Cond.laysFinal "TimberValley$Plans" "TimberValley$Plans" "setCost" "[I" ∈ gw := gw_m (lt_2 59 rfl) rfl
theorem kw_420 : Cond.laysFinal "TimberValley$Plans" "TimberValley$Plans" "from" "[[I" ∈ gw := gw_m (lt_2 61 rfl) rfl
theorem kw_422 : Cond.laysFinal "TimberValley$Plans" "TimberValley$Plans" "ahead" "[I" ∈ gw := gw_m (lt_2 63 rfl) rfl
theorem kw_424 : Cond.laysFinal "TimberValley$Plans" "TimberValley$Plans" "chosen" "[I" ∈ gw := gw_m (lt_2 65 rfl) rfl
theorem kw_426 : Cond.laysFinal "TimberValley$Plans" "TimberValley$Plans" "start" "[I" ∈ gw := gw_m (lt_2 67 rfl) rfl
theorem kw_428 : Cond.laysFinal "TimberValley$Plans" "TimberValley$Plans" "yields" "[[I" ∈ gw := gw_m (lt_2 69 rfl) rfl
theorem kw_430 : Cond.lays "TimberValley$Plans" "TimberValley$Plans" "cut3" "I" ∈ gw := gw_m (lt_2 71 rfl) rfl
theorem kw_432 : Cond.lays "TimberValley$Plans" "TimberValley$Plans" "cut2" "I" ∈ gw := gw_m (lt_2 73 rfl) rfl
theorem kw_434 : Cond.laysFinal "TimberValley$Plans" "TimberValley$Plans" "cuts" "[I" ∈ gw := gw_m (lt_2 75 rfl) rfl
theorem kw_436 : Cond.lays "TimberValley$Plans" "TimberValley$Plans" "cutsTold" "Z" ∈ gw := gw_m (lt_2 77 rfl) rfl
theorem kw_439 : Cond.classLink "TimberValley" 105 "TimberValley$Cruises" ∈ gw := gw_m (lt_2 80 rfl) rfl
theorem kw_440 : Cond.instantiable "TimberValley$Cruises" 4 ∈ gw := gw_m (lt_2 81 rfl) rfl
theorem kw_441 : Cond.methodLinkNest "TimberValley" 107 ({ cls := "TimberValley$Cruises", name := "<init>", desc := "()V" } : MethodName) "TimberValley" ∈ lw_tbl := lt_2 82 rfl
theorem kw_442 : Cond.instanceMethod ({ cls := "TimberValley$Cruises", name := "<init>", desc := "()V" } : MethodName) ∈ gw := gw_m (lt_2 83 rfl) rfl
theorem kw_443 : Cond.code ({ cls := "TimberValley$Cruises", name := "<init>", desc := "()V" } : MethodName) prog_4_method_1_code 1 (Option.none : Option FieldType) ∈ gw := gw_m (lt_2 84 rfl) rfl
theorem kw_444 : Cond.methodLink "TimberValley$Cruises" 3 ({ cls := "java/lang/Object", name := "<init>", desc := "()V" } : MethodName) ∈ gw := gw_m (lt_2 85 rfl) rfl
theorem kw_445 : Cond.fieldLink "TimberValley$Cruises" 9 "TimberValley$Cruises" "lengths" "[I" ∈ gw := gw_m (lt_2 86 rfl) rfl
theorem kw_446 : Cond.fieldLink "TimberValley$Cruises" 15 "TimberValley$Cruises" "floats" "[Z" ∈ gw := gw_m (lt_2 87 rfl) rfl
theorem kw_447 : Cond.fieldLink "TimberValley$Cruises" 19 "TimberValley$Cruises" "eighths" "[I" ∈ gw := gw_m (lt_2 88 rfl) rfl
theorem kw_448 : Cond.fieldLink "TimberValley$Cruises" 22 "TimberValley$Cruises" "holes" "[Z" ∈ gw := gw_m (lt_2 89 rfl) rfl
theorem kw_449 : Cond.laysFinal "TimberValley$Cruises" "TimberValley$Cruises" "lengths" "[I" ∈ gw := gw_m (lt_2 90 rfl) rfl
theorem kw_451 : Cond.laysFinal "TimberValley$Cruises" "TimberValley$Cruises" "floats" "[Z" ∈ gw := gw_m (lt_2 92 rfl) rfl
theorem kw_453 : Cond.laysFinal "TimberValley$Cruises" "TimberValley$Cruises" "eighths" "[I" ∈ gw := gw_m (lt_2 94 rfl) rfl
theorem kw_455 : Cond.laysFinal "TimberValley$Cruises" "TimberValley$Cruises" "holes" "[Z" ∈ gw := gw_m (lt_2 96 rfl) rfl
theorem kw_458 : Cond.fieldLink "TimberValley" 12 "TimberValley" "sky" "LTimberValley$Sky;" ∈ gw := gw_m (lt_2 99 rfl) rfl
theorem kw_459 : Cond.fieldLink "TimberValley" 19 "TimberValley" "land" "LTimberValley$Land;" ∈ gw := gw_m (lt_2 100 rfl) rfl
theorem kw_460 : Cond.fieldLink "TimberValley" 26 "TimberValley" "bucking" "LTimberValley$Bucking;" ∈ gw := gw_m (lt_2 101 rfl) rfl
theorem kw_461 : Cond.fieldLink "TimberValley" 32 "TimberValley" "logs" "[LTimberValley$Log;" ∈ gw := gw_m (lt_2 102 rfl) rfl
theorem kw_462 : Cond.fieldLink "TimberValley" 36 "TimberValley" "logCount" "I" ∈ gw := gw_m (lt_2 103 rfl) rfl
theorem kw_463 : Cond.fieldLink "TimberValley" 42 "TimberValley" "ways" "[LTimberValley$Way;" ∈ gw := gw_m (lt_2 104 rfl) rfl
theorem kw_464 : Cond.fieldLink "TimberValley" 46 "TimberValley" "wayCount" "I" ∈ gw := gw_m (lt_2 105 rfl) rfl
theorem kw_465 : Cond.fieldLink "TimberValley" 49 "TimberValley" "ironStored" "I" ∈ gw := gw_m (lt_2 106 rfl) rfl
theorem kw_466 : Cond.fieldLink "TimberValley" 55 "TimberValley" "tape" "LTimberValley$Tape;" ∈ gw := gw_m (lt_2 107 rfl) rfl
theorem kw_467 : Cond.fieldLink "TimberValley" 62 "TimberValley" "statutes" "LTimberValley$Statutes;" ∈ gw := gw_m (lt_2 108 rfl) rfl
theorem kw_468 : Cond.fieldLink "TimberValley" 68 "TimberValley" "crews" "[LTimberValley$Crew;" ∈ gw := gw_m (lt_2 109 rfl) rfl
theorem kw_469 : Cond.fieldLink "TimberValley" 72 "TimberValley" "crewCount" "I" ∈ gw := gw_m (lt_2 110 rfl) rfl
theorem kw_470 : Cond.fieldLink "TimberValley" 75 "TimberValley" "leaseRule" "I" ∈ gw := gw_m (lt_2 111 rfl) rfl
theorem kw_471 : Cond.fieldLink "TimberValley" 78 "TimberValley" "doubleScaler" "[I" ∈ gw := gw_m (lt_2 112 rfl) rfl
theorem kw_472 : Cond.fieldLink "TimberValley" 82 "TimberValley" "doubleLog" "[I" ∈ gw := gw_m (lt_2 113 rfl) rfl
theorem kw_473 : Cond.fieldLink "TimberValley" 85 "TimberValley" "doubleFound" "[I" ∈ gw := gw_m (lt_2 114 rfl) rfl
theorem kw_474 : Cond.fieldLink "TimberValley" 88 "TimberValley" "doubleCount" "I" ∈ gw := gw_m (lt_2 115 rfl) rfl
theorem kw_475 : Cond.fieldLink "TimberValley" 94 "TimberValley" "sawMill" "LTimberValley$SawMill;" ∈ gw := gw_m (lt_2 116 rfl) rfl
theorem kw_476 : Cond.fieldLink "TimberValley" 101 "TimberValley" "plans" "LTimberValley$Plans;" ∈ gw := gw_m (lt_2 117 rfl) rfl
theorem kw_477 : Cond.fieldLink "TimberValley" 108 "TimberValley" "cruises" "LTimberValley$Cruises;" ∈ gw := gw_m (lt_2 118 rfl) rfl
theorem kw_478 : Cond.laysFinal "TimberValley" "TimberValley" "sky" "LTimberValley$Sky;" ∈ gw := gw_m (lt_2 119 rfl) rfl
theorem kw_480 : Cond.laysFinal "TimberValley" "TimberValley" "land" "LTimberValley$Land;" ∈ gw := gw_m (lt_2 121 rfl) rfl
theorem kw_482 : Cond.laysFinal "TimberValley" "TimberValley" "bucking" "LTimberValley$Bucking;" ∈ gw := gw_m (lt_2 123 rfl) rfl
theorem kw_484 : Cond.laysFinal "TimberValley" "TimberValley" "logs" "[LTimberValley$Log;" ∈ gw := gw_m (lt_2 125 rfl) rfl
theorem kw_486 : Cond.lays "TimberValley" "TimberValley" "logCount" "I" ∈ gw := gw_m (lt_2 127 rfl) rfl
theorem kw_488 : Cond.laysFinal "TimberValley" "TimberValley" "ways" "[LTimberValley$Way;" ∈ gw := gw_m (lt_2 129 rfl) rfl
theorem kw_490 : Cond.lays "TimberValley" "TimberValley" "wayCount" "I" ∈ gw := gw_m (lt_2 131 rfl) rfl
theorem kw_492 : Cond.lays "TimberValley" "TimberValley" "ironStored" "I" ∈ gw := gw_m (lt_2 133 rfl) rfl
theorem kw_494 : Cond.laysFinal "TimberValley" "TimberValley" "tape" "LTimberValley$Tape;" ∈ gw := gw_m (lt_2 135 rfl) rfl
theorem kw_496 : Cond.laysFinal "TimberValley" "TimberValley" "statutes" "LTimberValley$Statutes;" ∈ gw := gw_m (lt_2 137 rfl) rfl
theorem kw_498 : Cond.laysFinal "TimberValley" "TimberValley" "crews" "[LTimberValley$Crew;" ∈ gw := gw_m (lt_2 139 rfl) rfl
theorem kw_500 : Cond.lays "TimberValley" "TimberValley" "crewCount" "I" ∈ gw := gw_m (lt_2 141 rfl) rfl
theorem kw_502 : Cond.lays "TimberValley" "TimberValley" "leaseRule" "I" ∈ gw := gw_m (lt_2 143 rfl) rfl
theorem kw_504 : Cond.laysFinal "TimberValley" "TimberValley" "doubleScaler" "[I" ∈ gw := gw_m (lt_2 145 rfl) rfl
theorem kw_506 : Cond.laysFinal "TimberValley" "TimberValley" "doubleLog" "[I" ∈ gw := gw_m (lt_2 147 rfl) rfl
theorem kw_508 : Cond.laysFinal "TimberValley" "TimberValley" "doubleFound" "[I" ∈ gw := gw_m (lt_2 149 rfl) rfl
theorem kw_510 : Cond.lays "TimberValley" "TimberValley" "doubleCount" "I" ∈ gw := gw_m (lt_2 151 rfl) rfl
theorem kw_512 : Cond.laysFinal "TimberValley" "TimberValley" "sawMill" "LTimberValley$SawMill;" ∈ gw := gw_m (lt_2 153 rfl) rfl
theorem kw_514 : Cond.laysFinal "TimberValley" "TimberValley" "plans" "LTimberValley$Plans;" ∈ gw := gw_m (lt_2 155 rfl) rfl
theorem kw_516 : Cond.laysFinal "TimberValley" "TimberValley" "cruises" "LTimberValley$Cruises;" ∈ gw := gw_m (lt_2 157 rfl) rfl
theorem kw_519 : Cond.methodLink "TimberValleyLaw" 25 ({ cls := "TimberValley", name := "cell", desc := "(II)Z" } : MethodName) ∈ gw := gw_m (lt_2 160 rfl) rfl
theorem kw_520 : Cond.instanceMethod ({ cls := "TimberValley", name := "cell", desc := "(II)Z" } : MethodName) ∈ gw := gw_m (lt_2 161 rfl) rfl
theorem kw_521 : Cond.selects "TimberValley" ({ cls := "TimberValley", name := "cell", desc := "(II)Z" } : MethodName) ({ cls := "TimberValley", name := "cell", desc := "(II)Z" } : MethodName) ∈ gw := gw_m (lt_2 162 rfl) rfl
theorem kw_522 : Cond.code ({ cls := "TimberValley", name := "cell", desc := "(II)Z" } : MethodName) prog_1_method_2_code 3 (Option.some FieldType.boolean) ∈ gw := gw_m (lt_2 163 rfl) rfl
theorem kw_523 : Cond.methodLink "TimberValley" 112 ({ cls := "TimberValley", name := "isCell", desc := "(I)Z" } : MethodName) ∈ gw := gw_m (lt_2 164 rfl) rfl
theorem kw_524 : Cond.static ({ cls := "TimberValley", name := "isCell", desc := "(I)Z" } : MethodName) ∈ gw := gw_m (lt_2 165 rfl) rfl
theorem kw_525 : Cond.code ({ cls := "TimberValley", name := "isCell", desc := "(I)Z" } : MethodName) prog_1_method_74_code 1 (Option.some FieldType.boolean) ∈ gw := gw_m (lt_2 166 rfl) rfl
theorem kw_526 : Cond.methodLink "TimberValley" 116 ({ cls := "TimberValley", name := "within", desc := "(III)Z" } : MethodName) ∈ gw := gw_m (lt_2 167 rfl) rfl
theorem kw_527 : Cond.static ({ cls := "TimberValley", name := "within", desc := "(III)Z" } : MethodName) ∈ gw := gw_m (lt_2 168 rfl) rfl
theorem kw_528 : Cond.code ({ cls := "TimberValley", name := "within", desc := "(III)Z" } : MethodName) prog_1_method_72_code 3 (Option.some FieldType.boolean) ∈ gw := gw_m (lt_2 169 rfl) rfl
theorem kw_529 : Cond.methodLink "TimberValleyLaw" 30 ({ cls := "TimberValley", name := "stand", desc := "(IIII)Z" } : MethodName) ∈ gw := gw_m (lt_2 170 rfl) rfl
theorem kw_530 : Cond.instanceMethod ({ cls := "TimberValley", name := "stand", desc := "(IIII)Z" } : MethodName) ∈ gw := gw_m (lt_2 171 rfl) rfl
theorem kw_531 : Cond.selects "TimberValley" ({ cls := "TimberValley", name := "stand", desc := "(IIII)Z" } : MethodName) ({ cls := "TimberValley", name := "stand", desc := "(IIII)Z" } : MethodName) ∈ gw := gw_m (lt_2 172 rfl) rfl
theorem kw_532 : Cond.code ({ cls := "TimberValley", name := "stand", desc := "(IIII)Z" } : MethodName) prog_1_method_3_code 5 (Option.some FieldType.boolean) ∈ gw := gw_m (lt_2 173 rfl) rfl
theorem kw_533 : Cond.methodLink "TimberValley" 123 ({ cls := "TimberValley", name := "isStem", desc := "(II)Z" } : MethodName) ∈ gw := gw_m (lt_2 174 rfl) rfl
theorem kw_534 : Cond.static ({ cls := "TimberValley", name := "isStem", desc := "(II)Z" } : MethodName) ∈ gw := gw_m (lt_2 175 rfl) rfl
theorem kw_535 : Cond.code ({ cls := "TimberValley", name := "isStem", desc := "(II)Z" } : MethodName) prog_1_method_75_code 2 (Option.some FieldType.boolean) ∈ gw := gw_m (lt_2 176 rfl) rfl
theorem kw_536 : Cond.methodLink "TimberValley" 130 ({ cls := "TimberValley$Land", name := "stemPlace", desc := "(III)I" } : MethodName) ∈ gw := gw_m (lt_2 177 rfl) rfl
theorem kw_537 : Cond.static ({ cls := "TimberValley$Land", name := "stemPlace", desc := "(III)I" } : MethodName) ∈ gw := gw_m (lt_2 178 rfl) rfl
theorem kw_538 : Cond.code ({ cls := "TimberValley$Land", name := "stemPlace", desc := "(III)I" } : MethodName) prog_5_method_2_code 3 (Option.some FieldType.int) ∈ gw := gw_m (lt_2 179 rfl) rfl
theorem kw_539 : Cond.methodLink "TimberValleyLaw" 35 ({ cls := "TimberValley", name := "sort", desc := "(III)Z" } : MethodName) ∈ gw := gw_m (lt_2 180 rfl) rfl
theorem kw_540 : Cond.instanceMethod ({ cls := "TimberValley", name := "sort", desc := "(III)Z" } : MethodName) ∈ gw := gw_m (lt_2 181 rfl) rfl
theorem kw_541 : Cond.selects "TimberValley" ({ cls := "TimberValley", name := "sort", desc := "(III)Z" } : MethodName) ({ cls := "TimberValley", name := "sort", desc := "(III)Z" } : MethodName) ∈ gw := gw_m (lt_2 182 rfl) rfl
theorem kw_542 : Cond.code ({ cls := "TimberValley", name := "sort", desc := "(III)Z" } : MethodName) prog_1_method_4_code 4 (Option.some FieldType.boolean) ∈ gw := gw_m (lt_2 183 rfl) rfl
theorem kw_543 : Cond.methodLink "TimberValleyLaw" 40 ({ cls := "TimberValley", name := "mill", desc := "(I)Z" } : MethodName) ∈ gw := gw_m (lt_2 184 rfl) rfl
theorem kw_544 : Cond.instanceMethod ({ cls := "TimberValley", name := "mill", desc := "(I)Z" } : MethodName) ∈ gw := gw_m (lt_2 185 rfl) rfl
theorem kw_545 : Cond.selects "TimberValley" ({ cls := "TimberValley", name := "mill", desc := "(I)Z" } : MethodName) ({ cls := "TimberValley", name := "mill", desc := "(I)Z" } : MethodName) ∈ gw := gw_m (lt_2 186 rfl) rfl
theorem kw_546 : Cond.code ({ cls := "TimberValley", name := "mill", desc := "(I)Z" } : MethodName) prog_1_method_5_code 2 (Option.some FieldType.boolean) ∈ gw := gw_m (lt_2 187 rfl) rfl
theorem kw_547 : Cond.methodLink "TimberValleyLaw" 45 ({ cls := "TimberValley", name := "weather", desc := "(IIII)Z" } : MethodName) ∈ gw := gw_m (lt_2 188 rfl) rfl
theorem kw_548 : Cond.instanceMethod ({ cls := "TimberValley", name := "weather", desc := "(IIII)Z" } : MethodName) ∈ gw := gw_m (lt_2 189 rfl) rfl
theorem kw_549 : Cond.selects "TimberValley" ({ cls := "TimberValley", name := "weather", desc := "(IIII)Z" } : MethodName) ({ cls := "TimberValley", name := "weather", desc := "(IIII)Z" } : MethodName) ∈ gw := gw_m (lt_2 190 rfl) rfl
theorem kw_550 : Cond.code ({ cls := "TimberValley", name := "weather", desc := "(IIII)Z" } : MethodName) prog_1_method_6_code 5 (Option.some FieldType.boolean) ∈ gw := gw_m (lt_2 191 rfl) rfl
theorem kw_551 : Cond.methodLink "TimberValley" 143 ({ cls := "TimberValley$Sky", name := "tell", desc := "(IIII)Z" } : MethodName) ∈ gw := gw_m (lt_2 192 rfl) rfl
theorem kw_552 : Cond.instanceMethod ({ cls := "TimberValley$Sky", name := "tell", desc := "(IIII)Z" } : MethodName) ∈ gw := gw_m (lt_2 193 rfl) rfl
theorem kw_553 : Cond.selects "TimberValley$Sky" ({ cls := "TimberValley$Sky", name := "tell", desc := "(IIII)Z" } : MethodName) ({ cls := "TimberValley$Sky", name := "tell", desc := "(IIII)Z" } : MethodName) ∈ gw := gw_m (lt_2 194 rfl) rfl
theorem kw_554 : Cond.code ({ cls := "TimberValley$Sky", name := "tell", desc := "(IIII)Z" } : MethodName) prog_9_method_2_code 5 (Option.some FieldType.boolean) ∈ gw := gw_m (lt_2 195 rfl) rfl
theorem kw_555 : Cond.methodLinkNest "TimberValley$Sky" 28 ({ cls := "TimberValley", name := "within", desc := "(III)Z" } : MethodName) "TimberValley" ∈ lw_tbl := lt_2 196 rfl
theorem kw_556 : Cond.methodLink "TimberValley$Sky" 32 ({ cls := "TimberValley$Sky", name := "tellingFor", desc := "(I)I" } : MethodName) ∈ gw := gw_m (lt_2 197 rfl) rfl
theorem kw_558 : Cond.instanceMethod ({ cls := "TimberValley$Sky", name := "tellingFor", desc := "(I)I" } : MethodName) ∈ gw := gw_m (lt_2 199 rfl) rfl
theorem kw_559 : Cond.code ({ cls := "TimberValley$Sky", name := "tellingFor", desc := "(I)I" } : MethodName) prog_9_method_7_code 4 (Option.some FieldType.int) ∈ gw := gw_m (lt_2 200 rfl) rfl
theorem kw_560 : Cond.methodLink "TimberValleyLaw" 49 ({ cls := "TimberValley", name := "weatherOf", desc := "(II)I" } : MethodName) ∈ gw := gw_m (lt_2 201 rfl) rfl
theorem kw_561 : Cond.instanceMethod ({ cls := "TimberValley", name := "weatherOf", desc := "(II)I" } : MethodName) ∈ gw := gw_m (lt_2 202 rfl) rfl
theorem kw_562 : Cond.selects "TimberValley" ({ cls := "TimberValley", name := "weatherOf", desc := "(II)I" } : MethodName) ({ cls := "TimberValley", name := "weatherOf", desc := "(II)I" } : MethodName) ∈ gw := gw_m (lt_2 203 rfl) rfl
theorem kw_563 : Cond.code ({ cls := "TimberValley", name := "weatherOf", desc := "(II)I" } : MethodName) prog_1_method_7_code 3 (Option.some FieldType.int) ∈ gw := gw_m (lt_2 204 rfl) rfl
theorem kw_564 : Cond.methodLink "TimberValley" 147 ({ cls := "TimberValley", name := "isDay", desc := "(I)Z" } : MethodName) ∈ gw := gw_m (lt_2 205 rfl) rfl
theorem kw_565 : Cond.static ({ cls := "TimberValley", name := "isDay", desc := "(I)Z" } : MethodName) ∈ gw := gw_m (lt_2 206 rfl) rfl
theorem kw_566 : Cond.code ({ cls := "TimberValley", name := "isDay", desc := "(I)Z" } : MethodName) prog_1_method_73_code 1 (Option.some FieldType.boolean) ∈ gw := gw_m (lt_2 207 rfl) rfl
theorem kw_567 : Cond.methodLink "TimberValley" 150 ({ cls := "TimberValley$Sky", name := "on", desc := "(II)I" } : MethodName) ∈ gw := gw_m (lt_2 208 rfl) rfl
theorem kw_568 : Cond.instanceMethod ({ cls := "TimberValley$Sky", name := "on", desc := "(II)I" } : MethodName) ∈ gw := gw_m (lt_2 209 rfl) rfl
theorem kw_569 : Cond.selects "TimberValley$Sky" ({ cls := "TimberValley$Sky", name := "on", desc := "(II)I" } : MethodName) ({ cls := "TimberValley$Sky", name := "on", desc := "(II)I" } : MethodName) ∈ gw := gw_m (lt_2 210 rfl) rfl
theorem kw_570 : Cond.code ({ cls := "TimberValley$Sky", name := "on", desc := "(II)I" } : MethodName) prog_9_method_4_code 3 (Option.some FieldType.int) ∈ gw := gw_m (lt_2 211 rfl) rfl
theorem kw_571 : Cond.methodLink "TimberValley$Sky" 36 ({ cls := "TimberValley$Sky", name := "valueOf", desc := "(II)I" } : MethodName) ∈ gw := gw_m (lt_2 212 rfl) rfl
theorem kw_573 : Cond.instanceMethod ({ cls := "TimberValley$Sky", name := "valueOf", desc := "(II)I" } : MethodName) ∈ gw := gw_m (lt_2 214 rfl) rfl
theorem kw_574 : Cond.code ({ cls := "TimberValley$Sky", name := "valueOf", desc := "(II)I" } : MethodName) prog_9_method_8_code 3 (Option.some FieldType.int) ∈ gw := gw_m (lt_2 215 rfl) rfl
theorem kw_575 : Cond.fieldLink "TimberValley$Sky" 40 "TimberValley$Sky" "AT_FIRST" "[I" ∈ gw := gw_m (lt_2 216 rfl) rfl
theorem kw_577 : Cond.methodLink "TimberValleyLaw" 241 ({ cls := "TimberValley", name := "of", desc := "(II)I" } : MethodName) ∈ gw := gw_m (lt_2 218 rfl) rfl
theorem kw_578 : Cond.instanceMethod ({ cls := "TimberValley", name := "of", desc := "(II)I" } : MethodName) ∈ gw := gw_m (lt_2 219 rfl) rfl
theorem kw_579 : Cond.selects "TimberValley" ({ cls := "TimberValley", name := "of", desc := "(II)I" } : MethodName) ({ cls := "TimberValley", name := "of", desc := "(II)I" } : MethodName) ∈ gw := gw_m (lt_2 220 rfl) rfl
theorem kw_580 : Cond.code ({ cls := "TimberValley", name := "of", desc := "(II)I" } : MethodName) prog_1_method_8_code 3 (Option.some FieldType.int) ∈ gw := gw_m (lt_2 221 rfl) rfl
theorem kw_581 : Cond.methodLink "TimberValley" 160 ({ cls := "TimberValley$Land", name := "far", desc := "(I)I" } : MethodName) ∈ gw := gw_m (lt_2 222 rfl) rfl
theorem kw_582 : Cond.instanceMethod ({ cls := "TimberValley$Land", name := "far", desc := "(I)I" } : MethodName) ∈ gw := gw_m (lt_2 223 rfl) rfl
theorem kw_583 : Cond.selects "TimberValley$Land" ({ cls := "TimberValley$Land", name := "far", desc := "(I)I" } : MethodName) ({ cls := "TimberValley$Land", name := "far", desc := "(I)I" } : MethodName) ∈ gw := gw_m (lt_2 224 rfl) rfl
theorem kw_584 : Cond.code ({ cls := "TimberValley$Land", name := "far", desc := "(I)I" } : MethodName) prog_5_method_5_code 2 (Option.some FieldType.int) ∈ gw := gw_m (lt_2 225 rfl) rfl
theorem kw_585 : Cond.methodLink "TimberValley$Land" 43 ({ cls := "TimberValley$Land", name := "apart", desc := "(II)I" } : MethodName) ∈ gw := gw_m (lt_2 226 rfl) rfl
theorem kw_586 : Cond.static ({ cls := "TimberValley$Land", name := "apart", desc := "(II)I" } : MethodName) ∈ gw := gw_m (lt_2 227 rfl) rfl
theorem kw_587 : Cond.code ({ cls := "TimberValley$Land", name := "apart", desc := "(II)I" } : MethodName) prog_5_method_3_code 2 (Option.some FieldType.int) ∈ gw := gw_m (lt_2 228 rfl) rfl
theorem kw_588 : Cond.methodLink "TimberValley$Land" 37 ({ cls := "java/lang/Math", name := "abs", desc := "(I)I" } : MethodName) ∈ gw := gw_m (lt_2 229 rfl) rfl
theorem kw_589 : Cond.static ({ cls := "java/lang/Math", name := "abs", desc := "(I)I" } : MethodName) ∈ gw := gw_m (lt_2 230 rfl) rfl
theorem kw_590 : Cond.code ({ cls := "java/lang/Math", name := "abs", desc := "(I)I" } : MethodName) prog_18_method_59_code 1 (Option.some FieldType.int) ∈ gw := gw_m (lt_2 231 rfl) rfl
theorem kw_591 : Cond.methodLink "TimberValley" 164 ({ cls := "TimberValley$Land", name := "stemsIn", desc := "(I)I" } : MethodName) ∈ gw := gw_m (lt_2 232 rfl) rfl
theorem kw_592 : Cond.instanceMethod ({ cls := "TimberValley$Land", name := "stemsIn", desc := "(I)I" } : MethodName) ∈ gw := gw_m (lt_2 233 rfl) rfl
theorem kw_593 : Cond.selects "TimberValley$Land" ({ cls := "TimberValley$Land", name := "stemsIn", desc := "(I)I" } : MethodName) ({ cls := "TimberValley$Land", name := "stemsIn", desc := "(I)I" } : MethodName) ∈ gw := gw_m (lt_2 234 rfl) rfl
theorem kw_594 : Cond.code ({ cls := "TimberValley$Land", name := "stemsIn", desc := "(I)I" } : MethodName) prog_5_method_8_code 4 (Option.some FieldType.int) ∈ gw := gw_m (lt_2 235 rfl) rfl
theorem kw_595 : Cond.methodLink "TimberValleyLaw" 53 ({ cls := "TimberValley", name := "price", desc := "(II)Z" } : MethodName) ∈ gw := gw_m (lt_2 236 rfl) rfl
theorem kw_596 : Cond.instanceMethod ({ cls := "TimberValley", name := "price", desc := "(II)Z" } : MethodName) ∈ gw := gw_m (lt_2 237 rfl) rfl
theorem kw_597 : Cond.selects "TimberValley" ({ cls := "TimberValley", name := "price", desc := "(II)Z" } : MethodName) ({ cls := "TimberValley", name := "price", desc := "(II)Z" } : MethodName) ∈ gw := gw_m (lt_2 238 rfl) rfl
theorem kw_598 : Cond.code ({ cls := "TimberValley", name := "price", desc := "(II)Z" } : MethodName) prog_1_method_9_code 3 (Option.some FieldType.boolean) ∈ gw := gw_m (lt_2 239 rfl) rfl
theorem kw_599 : Cond.methodLink "TimberValleyLaw" 57 ({ cls := "TimberValley", name := "buck", desc := "(II)I" } : MethodName) ∈ gw := gw_m (lt_3 0 rfl) rfl
theorem kw_600 : Cond.instanceMethod ({ cls := "TimberValley", name := "buck", desc := "(II)I" } : MethodName) ∈ gw := gw_m (lt_3 1 rfl) rfl
theorem kw_601 : Cond.selects "TimberValley" ({ cls := "TimberValley", name := "buck", desc := "(II)I" } : MethodName) ({ cls := "TimberValley", name := "buck", desc := "(II)I" } : MethodName) ∈ gw := gw_m (lt_3 2 rfl) rfl
theorem kw_602 : Cond.code ({ cls := "TimberValley", name := "buck", desc := "(II)I" } : MethodName) prog_1_method_10_code 3 (Option.some FieldType.int) ∈ gw := gw_m (lt_3 3 rfl) rfl
theorem kw_603 : Cond.methodLink "TimberValley" 170 ({ cls := "TimberValley$Bucking", name := "chooseBest", desc := "(LTimberValley$Land;II)I" } : MethodName) ∈ gw := gw_m (lt_3 4 rfl) rfl
theorem kw_604 : Cond.instanceMethod ({ cls := "TimberValley$Bucking", name := "chooseBest", desc := "(LTimberValley$Land;II)I" } : MethodName) ∈ gw := gw_m (lt_3 5 rfl) rfl
theorem kw_605 : Cond.selects "TimberValley$Bucking" ({ cls := "TimberValley$Bucking", name := "chooseBest", desc := "(LTimberValley$Land;II)I" } : MethodName) ({ cls := "TimberValley$Bucking", name := "chooseBest", desc := "(LTimberValley$Land;II)I" } : MethodName) ∈ gw := gw_m (lt_3 6 rfl) rfl
theorem kw_606 : Cond.code ({ cls := "TimberValley$Bucking", name := "chooseBest", desc := "(LTimberValley$Land;II)I" } : MethodName) prog_2_method_2_code 7 (Option.some FieldType.int) ∈ gw := gw_m (lt_3 7 rfl) rfl
theorem kw_607 : Cond.methodLink "TimberValley$Bucking" 28 ({ cls := "TimberValley$Land", name := "lengthOf", desc := "(I)I" } : MethodName) ∈ gw := gw_m (lt_3 8 rfl) rfl
theorem kw_608 : Cond.static ({ cls := "TimberValley$Land", name := "lengthOf", desc := "(I)I" } : MethodName) ∈ gw := gw_m (lt_3 9 rfl) rfl
theorem kw_609 : Cond.code ({ cls := "TimberValley$Land", name := "lengthOf", desc := "(I)I" } : MethodName) prog_5_method_6_code 1 (Option.some FieldType.int) ∈ gw := gw_m (lt_3 10 rfl) rfl
theorem kw_610 : Cond.methodLink "TimberValley$Bucking" 34 ({ cls := "TimberValley$Bucking", name := "weigh", desc := "(LTimberValley$Land;III)V" } : MethodName) ∈ gw := gw_m (lt_3 11 rfl) rfl
theorem kw_612 : Cond.instanceMethod ({ cls := "TimberValley$Bucking", name := "weigh", desc := "(LTimberValley$Land;III)V" } : MethodName) ∈ gw := gw_m (lt_3 13 rfl) rfl
theorem kw_613 : Cond.code ({ cls := "TimberValley$Bucking", name := "weigh", desc := "(LTimberValley$Land;III)V" } : MethodName) prog_2_method_3_code 9 (Option.none : Option FieldType) ∈ gw := gw_m (lt_3 14 rfl) rfl
theorem kw_614 : Cond.methodLink "TimberValley$Bucking" 38 ({ cls := "TimberValley$Land", name := "wideAt", desc := "(III)I" } : MethodName) ∈ gw := gw_m (lt_3 15 rfl) rfl
theorem kw_615 : Cond.instanceMethod ({ cls := "TimberValley$Land", name := "wideAt", desc := "(III)I" } : MethodName) ∈ gw := gw_m (lt_3 16 rfl) rfl
theorem kw_616 : Cond.selects "TimberValley$Land" ({ cls := "TimberValley$Land", name := "wideAt", desc := "(III)I" } : MethodName) ({ cls := "TimberValley$Land", name := "wideAt", desc := "(III)I" } : MethodName) ∈ gw := gw_m (lt_3 17 rfl) rfl
theorem kw_617 : Cond.code ({ cls := "TimberValley$Land", name := "wideAt", desc := "(III)I" } : MethodName) prog_5_method_7_code 4 (Option.some FieldType.int) ∈ gw := gw_m (lt_3 18 rfl) rfl
theorem kw_618 : Cond.methodLink "TimberValley$Land" 47 ({ cls := "java/lang/Math", name := "max", desc := "(II)I" } : MethodName) ∈ gw := gw_m (lt_3 19 rfl) rfl
theorem kw_619 : Cond.static ({ cls := "java/lang/Math", name := "max", desc := "(II)I" } : MethodName) ∈ gw := gw_m (lt_3 20 rfl) rfl
theorem kw_620 : Cond.code ({ cls := "java/lang/Math", name := "max", desc := "(II)I" } : MethodName) prog_18_method_65_code 2 (Option.some FieldType.int) ∈ gw := gw_m (lt_3 21 rfl) rfl
theorem kw_621 : Cond.methodLink "TimberValleyLaw" 61 ({ cls := "TimberValley", name := "piece", desc := "(III)I" } : MethodName) ∈ gw := gw_m (lt_3 22 rfl) rfl
theorem kw_622 : Cond.instanceMethod ({ cls := "TimberValley", name := "piece", desc := "(III)I" } : MethodName) ∈ gw := gw_m (lt_3 23 rfl) rfl
theorem kw_623 : Cond.selects "TimberValley" ({ cls := "TimberValley", name := "piece", desc := "(III)I" } : MethodName) ({ cls := "TimberValley", name := "piece", desc := "(III)I" } : MethodName) ∈ gw := gw_m (lt_3 24 rfl) rfl
theorem kw_624 : Cond.code ({ cls := "TimberValley", name := "piece", desc := "(III)I" } : MethodName) prog_1_method_11_code 4 (Option.some FieldType.int) ∈ gw := gw_m (lt_3 25 rfl) rfl
theorem kw_625 : Cond.methodLink "TimberValleyLaw" 66 ({ cls := "TimberValley", name := "worth", desc := "(III)I" } : MethodName) ∈ gw := gw_m (lt_3 26 rfl) rfl
theorem kw_626 : Cond.instanceMethod ({ cls := "TimberValley", name := "worth", desc := "(III)I" } : MethodName) ∈ gw := gw_m (lt_3 27 rfl) rfl
theorem kw_627 : Cond.selects "TimberValley" ({ cls := "TimberValley", name := "worth", desc := "(III)I" } : MethodName) ({ cls := "TimberValley", name := "worth", desc := "(III)I" } : MethodName) ∈ gw := gw_m (lt_3 28 rfl) rfl
theorem kw_628 : Cond.code ({ cls := "TimberValley", name := "worth", desc := "(III)I" } : MethodName) prog_1_method_12_code 4 (Option.some FieldType.int) ∈ gw := gw_m (lt_3 29 rfl) rfl
theorem kw_629 : Cond.methodLink "TimberValley" 180 ({ cls := "TimberValley$Bucking", name := "chooseRow", desc := "(LTimberValley$Land;III)I" } : MethodName) ∈ gw := gw_m (lt_3 30 rfl) rfl
theorem kw_630 : Cond.instanceMethod ({ cls := "TimberValley$Bucking", name := "chooseRow", desc := "(LTimberValley$Land;III)I" } : MethodName) ∈ gw := gw_m (lt_3 31 rfl) rfl
theorem kw_631 : Cond.selects "TimberValley$Bucking" ({ cls := "TimberValley$Bucking", name := "chooseRow", desc := "(LTimberValley$Land;III)I" } : MethodName) ({ cls := "TimberValley$Bucking", name := "chooseRow", desc := "(LTimberValley$Land;III)I" } : MethodName) ∈ gw := gw_m (lt_3 32 rfl) rfl
theorem kw_632 : Cond.code ({ cls := "TimberValley$Bucking", name := "chooseRow", desc := "(LTimberValley$Land;III)I" } : MethodName) prog_2_method_4_code 8 (Option.some FieldType.int) ∈ gw := gw_m (lt_3 33 rfl) rfl
theorem kw_633 : Cond.methodLink "TimberValley$Bucking" 42 ({ cls := "TimberValley$Bucking", name := "takeFigures", desc := "(I)Z" } : MethodName) ∈ gw := gw_m (lt_3 34 rfl) rfl
theorem kw_635 : Cond.instanceMethod ({ cls := "TimberValley$Bucking", name := "takeFigures", desc := "(I)Z" } : MethodName) ∈ gw := gw_m (lt_3 36 rfl) rfl
theorem kw_636 : Cond.code ({ cls := "TimberValley$Bucking", name := "takeFigures", desc := "(I)Z" } : MethodName) prog_2_method_5_code 6 (Option.some FieldType.boolean) ∈ gw := gw_m (lt_3 37 rfl) rfl
theorem kw_637 : Cond.methodLink "TimberValley$Bucking" 46 ({ cls := "TimberValley$Bucking", name := "figuresOf", desc := "(I)I" } : MethodName) ∈ gw := gw_m (lt_3 38 rfl) rfl
theorem kw_638 : Cond.static ({ cls := "TimberValley$Bucking", name := "figuresOf", desc := "(I)I" } : MethodName) ∈ gw := gw_m (lt_3 39 rfl) rfl
theorem kw_639 : Cond.code ({ cls := "TimberValley$Bucking", name := "figuresOf", desc := "(I)I" } : MethodName) prog_2_method_6_code 3 (Option.some FieldType.int) ∈ gw := gw_m (lt_3 40 rfl) rfl
theorem kw_640 : Cond.methodLinkNest "TimberValley$Bucking" 49 ({ cls := "TimberValley", name := "within", desc := "(III)Z" } : MethodName) "TimberValley" ∈ lw_tbl := lt_3 41 rfl
theorem kw_641 : Cond.methodLink "TimberValleyLaw" 70 ({ cls := "TimberValley", name := "fall", desc := "(IIIII)I" } : MethodName) ∈ gw := gw_m (lt_3 42 rfl) rfl
theorem kw_642 : Cond.instanceMethod ({ cls := "TimberValley", name := "fall", desc := "(IIIII)I" } : MethodName) ∈ gw := gw_m (lt_3 43 rfl) rfl
theorem kw_643 : Cond.selects "TimberValley" ({ cls := "TimberValley", name := "fall", desc := "(IIIII)I" } : MethodName) ({ cls := "TimberValley", name := "fall", desc := "(IIIII)I" } : MethodName) ∈ gw := gw_m (lt_3 44 rfl) rfl
theorem kw_644 : Cond.code ({ cls := "TimberValley", name := "fall", desc := "(IIIII)I" } : MethodName) prog_1_method_13_code 9 (Option.some FieldType.int) ∈ gw := gw_m (lt_3 45 rfl) rfl
theorem kw_645 : Cond.methodLink "TimberValley" 184 ({ cls := "TimberValley", name := "crewAt", desc := "(I)LTimberValley$Crew;" } : MethodName) ∈ gw := gw_m (lt_3 46 rfl) rfl
theorem kw_647 : Cond.instanceMethod ({ cls := "TimberValley", name := "crewAt", desc := "(I)LTimberValley$Crew;" } : MethodName) ∈ gw := gw_m (lt_3 48 rfl) rfl
theorem kw_648 : Cond.code ({ cls := "TimberValley", name := "crewAt", desc := "(I)LTimberValley$Crew;" } : MethodName) prog_1_method_79_code 2 (Option.some (FieldType.object "TimberValley$Crew")) ∈ gw := gw_m (lt_3 49 rfl) rfl
theorem kw_649 : Cond.methodLink "TimberValley" 192 ({ cls := "TimberValley", name := "askOfCut", desc := "(IIII)V" } : MethodName) ∈ gw := gw_m (lt_3 50 rfl) rfl
theorem kw_651 : Cond.instanceMethod ({ cls := "TimberValley", name := "askOfCut", desc := "(IIII)V" } : MethodName) ∈ gw := gw_m (lt_3 52 rfl) rfl
theorem kw_652 : Cond.code ({ cls := "TimberValley", name := "askOfCut", desc := "(IIII)V" } : MethodName) prog_1_method_36_code 5 (Option.none : Option FieldType) ∈ gw := gw_m (lt_3 53 rfl) rfl
theorem kw_653 : Cond.methodLink "TimberValley" 344 ({ cls := "TimberValley$Statutes", name := "askOfDay", desc := "(LTimberValley$Sky;)V" } : MethodName) ∈ gw := gw_m (lt_3 54 rfl) rfl
theorem kw_654 : Cond.instanceMethod ({ cls := "TimberValley$Statutes", name := "askOfDay", desc := "(LTimberValley$Sky;)V" } : MethodName) ∈ gw := gw_m (lt_3 55 rfl) rfl
theorem kw_655 : Cond.selects "TimberValley$Statutes" ({ cls := "TimberValley$Statutes", name := "askOfDay", desc := "(LTimberValley$Sky;)V" } : MethodName) ({ cls := "TimberValley$Statutes", name := "askOfDay", desc := "(LTimberValley$Sky;)V" } : MethodName) ∈ gw := gw_m (lt_3 56 rfl) rfl
theorem kw_656 : Cond.code ({ cls := "TimberValley$Statutes", name := "askOfDay", desc := "(LTimberValley$Sky;)V" } : MethodName) prog_10_method_15_code 3 (Option.none : Option FieldType) ∈ gw := gw_m (lt_3 57 rfl) rfl
theorem kw_657 : Cond.methodLink "TimberValley$Statutes" 141 ({ cls := "TimberValley$Sky", name := "season", desc := "()I" } : MethodName) ∈ gw := gw_m (lt_3 58 rfl) rfl
theorem kw_658 : Cond.instanceMethod ({ cls := "TimberValley$Sky", name := "season", desc := "()I" } : MethodName) ∈ gw := gw_m (lt_3 59 rfl) rfl
theorem kw_659 : Cond.selects "TimberValley$Sky" ({ cls := "TimberValley$Sky", name := "season", desc := "()I" } : MethodName) ({ cls := "TimberValley$Sky", name := "season", desc := "()I" } : MethodName) ∈ gw := gw_m (lt_3 60 rfl) rfl
theorem kw_660 : Cond.code ({ cls := "TimberValley$Sky", name := "season", desc := "()I" } : MethodName) prog_9_method_6_code 1 (Option.some FieldType.int) ∈ gw := gw_m (lt_3 61 rfl) rfl
theorem kw_661 : Cond.methodLink "TimberValley$Statutes" 149 ({ cls := "TimberValley$Sky", name := "now", desc := "(I)I" } : MethodName) ∈ gw := gw_m (lt_3 62 rfl) rfl
theorem kw_662 : Cond.instanceMethod ({ cls := "TimberValley$Sky", name := "now", desc := "(I)I" } : MethodName) ∈ gw := gw_m (lt_3 63 rfl) rfl
theorem kw_663 : Cond.selects "TimberValley$Sky" ({ cls := "TimberValley$Sky", name := "now", desc := "(I)I" } : MethodName) ({ cls := "TimberValley$Sky", name := "now", desc := "(I)I" } : MethodName) ∈ gw := gw_m (lt_3 64 rfl) rfl
theorem kw_664 : Cond.code ({ cls := "TimberValley$Sky", name := "now", desc := "(I)I" } : MethodName) prog_9_method_5_code 2 (Option.some FieldType.int) ∈ gw := gw_m (lt_3 65 rfl) rfl
theorem kw_665 : Cond.methodLink "TimberValley" 351 ({ cls := "TimberValley$Statutes", name := "askOfCell", desc := "(LTimberValley$Land;I)V" } : MethodName) ∈ gw := gw_m (lt_3 66 rfl) rfl
theorem kw_666 : Cond.instanceMethod ({ cls := "TimberValley$Statutes", name := "askOfCell", desc := "(LTimberValley$Land;I)V" } : MethodName) ∈ gw := gw_m (lt_3 67 rfl) rfl
theorem kw_667 : Cond.selects "TimberValley$Statutes" ({ cls := "TimberValley$Statutes", name := "askOfCell", desc := "(LTimberValley$Land;I)V" } : MethodName) ({ cls := "TimberValley$Statutes", name := "askOfCell", desc := "(LTimberValley$Land;I)V" } : MethodName) ∈ gw := gw_m (lt_3 68 rfl) rfl
theorem kw_668 : Cond.code ({ cls := "TimberValley$Statutes", name := "askOfCell", desc := "(LTimberValley$Land;I)V" } : MethodName) prog_10_method_16_code 3 (Option.none : Option FieldType) ∈ gw := gw_m (lt_3 69 rfl) rfl
theorem kw_669 : Cond.methodLink "TimberValley$Statutes" 158 ({ cls := "TimberValley$Land", name := "far", desc := "(I)I" } : MethodName) ∈ gw := gw_m (lt_3 70 rfl) rfl
theorem kw_670 : Cond.methodLink "TimberValley" 199 ({ cls := "TimberValley$Statutes", name := "barring", desc := "(II)I" } : MethodName) ∈ gw := gw_m (lt_3 71 rfl) rfl
theorem kw_671 : Cond.instanceMethod ({ cls := "TimberValley$Statutes", name := "barring", desc := "(II)I" } : MethodName) ∈ gw := gw_m (lt_3 72 rfl) rfl
theorem kw_672 : Cond.selects "TimberValley$Statutes" ({ cls := "TimberValley$Statutes", name := "barring", desc := "(II)I" } : MethodName) ({ cls := "TimberValley$Statutes", name := "barring", desc := "(II)I" } : MethodName) ∈ gw := gw_m (lt_3 73 rfl) rfl
theorem kw_673 : Cond.code ({ cls := "TimberValley$Statutes", name := "barring", desc := "(II)I" } : MethodName) prog_10_method_17_code 7 (Option.some FieldType.int) ∈ gw := gw_m (lt_3 74 rfl) rfl
theorem kw_674 : Cond.methodLink "TimberValley$Statutes" 164 ({ cls := "TimberValley$Statutes", name := "textOn", desc := "(I)I" } : MethodName) ∈ gw := gw_m (lt_3 75 rfl) rfl
theorem kw_676 : Cond.instanceMethod ({ cls := "TimberValley$Statutes", name := "textOn", desc := "(I)I" } : MethodName) ∈ gw := gw_m (lt_3 77 rfl) rfl
theorem kw_677 : Cond.code ({ cls := "TimberValley$Statutes", name := "textOn", desc := "(I)I" } : MethodName) prog_10_method_19_code 4 (Option.some FieldType.int) ∈ gw := gw_m (lt_3 78 rfl) rfl
theorem kw_678 : Cond.methodLink "TimberValley$Statutes" 167 ({ cls := "TimberValley$Statutes", name := "holds", desc := "(I)Z" } : MethodName) ∈ gw := gw_m (lt_3 79 rfl) rfl
theorem kw_680 : Cond.instanceMethod ({ cls := "TimberValley$Statutes", name := "holds", desc := "(I)Z" } : MethodName) ∈ gw := gw_m (lt_3 81 rfl) rfl
theorem kw_681 : Cond.code ({ cls := "TimberValley$Statutes", name := "holds", desc := "(I)Z" } : MethodName) prog_10_method_20_code 3 (Option.some FieldType.boolean) ∈ gw := gw_m (lt_3 82 rfl) rfl
theorem kw_682 : Cond.methodLink "TimberValley$Statutes" 174 ({ cls := "TimberValley$Statutes", name := "termHolds", desc := "(I)Z" } : MethodName) ∈ gw := gw_m (lt_3 83 rfl) rfl
theorem kw_684 : Cond.instanceMethod ({ cls := "TimberValley$Statutes", name := "termHolds", desc := "(I)Z" } : MethodName) ∈ gw := gw_m (lt_3 85 rfl) rfl
theorem kw_685 : Cond.code ({ cls := "TimberValley$Statutes", name := "termHolds", desc := "(I)Z" } : MethodName) prog_10_method_21_code 2 (Option.some FieldType.boolean) ∈ gw := gw_m (lt_3 86 rfl) rfl
theorem kw_686 : Cond.methodLink "TimberValley$Statutes" 177 ({ cls := "TimberValley$Statutes", name := "compares", desc := "(III)Z" } : MethodName) ∈ gw := gw_m (lt_3 87 rfl) rfl
theorem kw_687 : Cond.static ({ cls := "TimberValley$Statutes", name := "compares", desc := "(III)Z" } : MethodName) ∈ gw := gw_m (lt_3 88 rfl) rfl
theorem kw_688 : Cond.code ({ cls := "TimberValley$Statutes", name := "compares", desc := "(III)Z" } : MethodName) prog_10_method_22_code 3 (Option.some FieldType.boolean) ∈ gw := gw_m (lt_3 89 rfl) rfl
theorem kw_689 : Cond.methodLink "TimberValley" 202 ({ cls := "TimberValley$Statutes", name := "numberOn", desc := "(II)I" } : MethodName) ∈ gw := gw_m (lt_3 90 rfl) rfl
theorem kw_690 : Cond.instanceMethod ({ cls := "TimberValley$Statutes", name := "numberOn", desc := "(II)I" } : MethodName) ∈ gw := gw_m (lt_3 91 rfl) rfl
theorem kw_691 : Cond.selects "TimberValley$Statutes" ({ cls := "TimberValley$Statutes", name := "numberOn", desc := "(II)I" } : MethodName) ({ cls := "TimberValley$Statutes", name := "numberOn", desc := "(II)I" } : MethodName) ∈ gw := gw_m (lt_3 92 rfl) rfl
theorem kw_692 : Cond.code ({ cls := "TimberValley$Statutes", name := "numberOn", desc := "(II)I" } : MethodName) prog_10_method_18_code 7 (Option.some FieldType.int) ∈ gw := gw_m (lt_3 93 rfl) rfl
theorem kw_693 : Cond.methodLinkNest "TimberValley$Statutes" 132 ({ cls := "TimberValley", name := "within", desc := "(III)Z" } : MethodName) "TimberValley" ∈ lw_tbl := lt_3 94 rfl
theorem kw_694 : Cond.fieldLink "TimberValley$Statutes" 171 "TimberValley$Statutes" "WITHOUT" "[I" ∈ gw := gw_m (lt_3 95 rfl) rfl
theorem kw_696 : Cond.methodLink "TimberValley" 211 ({ cls := "TimberValley", name := "makeLogs", desc := "(IIII)I" } : MethodName) ∈ gw := gw_m (lt_3 97 rfl) rfl
theorem kw_698 : Cond.instanceMethod ({ cls := "TimberValley", name := "makeLogs", desc := "(IIII)I" } : MethodName) ∈ gw := gw_m (lt_3 99 rfl) rfl
theorem kw_699 : Cond.code ({ cls := "TimberValley", name := "makeLogs", desc := "(IIII)I" } : MethodName) prog_1_method_14_code 10 (Option.some FieldType.int) ∈ gw := gw_m (lt_3 100 rfl) rfl
theorem kw_700 : Cond.instantiable "TimberValley$Log" 16 ∈ gw := gw_m (lt_3 101 rfl) rfl
theorem kw_701 : Cond.methodLink "TimberValley" 219 ({ cls := "TimberValley$Land", name := "wideAt", desc := "(III)I" } : MethodName) ∈ gw := gw_m (lt_3 102 rfl) rfl
theorem kw_702 : Cond.methodLink "TimberValley" 222 ({ cls := "TimberValley$Log", name := "<init>", desc := "(IIIIII)V" } : MethodName) ∈ gw := gw_m (lt_3 103 rfl) rfl
theorem kw_703 : Cond.instanceMethod ({ cls := "TimberValley$Log", name := "<init>", desc := "(IIIIII)V" } : MethodName) ∈ gw := gw_m (lt_3 104 rfl) rfl
theorem kw_704 : Cond.code ({ cls := "TimberValley$Log", name := "<init>", desc := "(IIIIII)V" } : MethodName) prog_6_method_1_code 8 (Option.none : Option FieldType) ∈ gw := gw_m (lt_3 105 rfl) rfl
theorem kw_705 : Cond.methodLink "TimberValley$Log" 3 ({ cls := "java/lang/Object", name := "<init>", desc := "()V" } : MethodName) ∈ gw := gw_m (lt_3 106 rfl) rfl
theorem kw_706 : Cond.fieldLink "TimberValley$Log" 46 "TimberValley$Log" "sort" "I" ∈ gw := gw_m (lt_3 107 rfl) rfl
theorem kw_707 : Cond.fieldLink "TimberValley$Log" 49 "TimberValley$Log" "units" "I" ∈ gw := gw_m (lt_3 108 rfl) rfl
theorem kw_708 : Cond.fieldLinkNest "TimberValley$SawMill" 65 "TimberValley$Log" "units" "I" "TimberValley" ∈ lw_tbl := lt_3 109 rfl
theorem kw_709 : Cond.fieldLink "TimberValley$Log" 52 "TimberValley$Log" "wide" "I" ∈ gw := gw_m (lt_3 110 rfl) rfl
theorem kw_710 : Cond.fieldLinkNest "TimberValley$SawMill" 46 "TimberValley$Log" "wide" "I" "TimberValley" ∈ lw_tbl := lt_3 111 rfl
theorem kw_711 : Cond.fieldLinkNest "TimberValley" 314 "TimberValley$Log" "wide" "I" "TimberValley" ∈ lw_tbl := lt_3 112 rfl
theorem kw_712 : Cond.fieldLink "TimberValley$Log" 55 "TimberValley$Log" "brand" "I" ∈ gw := gw_m (lt_3 113 rfl) rfl
theorem kw_713 : Cond.fieldLink "TimberValley$Log" 58 "TimberValley$Log" "fault" "I" ∈ gw := gw_m (lt_3 114 rfl) rfl
theorem kw_714 : Cond.fieldLinkNest "TimberValley$SawMill" 71 "TimberValley$Log" "fault" "I" "TimberValley" ∈ lw_tbl := lt_3 115 rfl
theorem kw_715 : Cond.fieldLink "TimberValley$Log" 43 "TimberValley$Log" "cell" "I" ∈ gw := gw_m (lt_3 116 rfl) rfl
theorem kw_716 : Cond.fieldLinkNest "TimberValley" 302 "TimberValley$Log" "cell" "I" "TimberValley" ∈ lw_tbl := lt_3 117 rfl
theorem kw_717 : Cond.fieldLink "TimberValley$Log" 9 "TimberValley$Log" "fellOn" "I" ∈ gw := gw_m (lt_3 118 rfl) rfl
theorem kw_718 : Cond.fieldLink "TimberValley$Log" 15 "TimberValley$Log" "came" "I" ∈ gw := gw_m (lt_3 119 rfl) rfl
theorem kw_719 : Cond.fieldLinkNest "TimberValley" 308 "TimberValley$Log" "came" "I" "TimberValley" ∈ lw_tbl := lt_3 120 rfl
theorem kw_720 : Cond.fieldLink "TimberValley$Log" 18 "TimberValley$Log" "became" "I" ∈ gw := gw_m (lt_3 121 rfl) rfl
theorem kw_721 : Cond.fieldLinkNest "TimberValley" 320 "TimberValley$Log" "became" "I" "TimberValley" ∈ lw_tbl := lt_3 122 rfl
theorem kw_722 : Cond.fieldLink "TimberValley$Log" 21 "TimberValley$Log" "changes" "I" ∈ gw := gw_m (lt_3 123 rfl) rfl
theorem kw_723 : Cond.fieldLink "TimberValley$Log" 24 "TimberValley$Log" "changeTo" "[I" ∈ gw := gw_m (lt_3 124 rfl) rfl
theorem kw_724 : Cond.fieldLink "TimberValley$Log" 28 "TimberValley$Log" "changeDay" "[I" ∈ gw := gw_m (lt_3 125 rfl) rfl
theorem kw_725 : Cond.fieldLink "TimberValley$Log" 31 "TimberValley$Log" "changeKnown" "[I" ∈ gw := gw_m (lt_3 126 rfl) rfl
theorem kw_726 : Cond.fieldLink "TimberValley$Log" 34 "TimberValley$Log" "register" "[I" ∈ gw := gw_m (lt_3 127 rfl) rfl
theorem kw_727 : Cond.fieldLinkNest "TimberValley" 481 "TimberValley$Log" "register" "[I" "TimberValley" ∈ lw_tbl := lt_3 128 rfl
theorem kw_728 : Cond.fieldLink "TimberValley$Log" 37 "TimberValley$Log" "sumOfAll" "I" ∈ gw := gw_m (lt_3 129 rfl) rfl
theorem kw_729 : Cond.fieldLink "TimberValley$Log" 40 "TimberValley$Log" "sumByPlace" "I" ∈ gw := gw_m (lt_3 130 rfl) rfl
theorem kw_730 : Cond.laysFinal "TimberValley$Log" "TimberValley$Log" "sort" "I" ∈ gw := gw_m (lt_3 131 rfl) rfl
theorem kw_732 : Cond.laysFinal "TimberValley$Log" "TimberValley$Log" "units" "I" ∈ gw := gw_m (lt_3 133 rfl) rfl
theorem kw_734 : Cond.laysFinal "TimberValley$Log" "TimberValley$Log" "wide" "I" ∈ gw := gw_m (lt_3 135 rfl) rfl
theorem kw_736 : Cond.laysFinal "TimberValley$Log" "TimberValley$Log" "brand" "I" ∈ gw := gw_m (lt_3 137 rfl) rfl
theorem kw_738 : Cond.laysFinal "TimberValley$Log" "TimberValley$Log" "fault" "I" ∈ gw := gw_m (lt_3 139 rfl) rfl
theorem kw_740 : Cond.lays "TimberValley$Log" "TimberValley$Log" "cell" "I" ∈ gw := gw_m (lt_3 141 rfl) rfl
theorem kw_742 : Cond.lays "TimberValley$Log" "TimberValley$Log" "fellOn" "I" ∈ gw := gw_m (lt_3 143 rfl) rfl
theorem kw_744 : Cond.lays "TimberValley$Log" "TimberValley$Log" "came" "I" ∈ gw := gw_m (lt_3 145 rfl) rfl
theorem kw_746 : Cond.lays "TimberValley$Log" "TimberValley$Log" "became" "I" ∈ gw := gw_m (lt_3 147 rfl) rfl
theorem kw_748 : Cond.lays "TimberValley$Log" "TimberValley$Log" "changes" "I" ∈ gw := gw_m (lt_3 149 rfl) rfl
theorem kw_750 : Cond.laysFinal "TimberValley$Log" "TimberValley$Log" "changeTo" "[I" ∈ gw := gw_m (lt_3 151 rfl) rfl
theorem kw_752 : Cond.laysFinal "TimberValley$Log" "TimberValley$Log" "changeDay" "[I" ∈ gw := gw_m (lt_3 153 rfl) rfl
theorem kw_754 : Cond.laysFinal "TimberValley$Log" "TimberValley$Log" "changeKnown" "[I" ∈ gw := gw_m (lt_3 155 rfl) rfl
theorem kw_756 : Cond.laysFinal "TimberValley$Log" "TimberValley$Log" "register" "[I" ∈ gw := gw_m (lt_3 157 rfl) rfl
theorem kw_758 : Cond.lays "TimberValley$Log" "TimberValley$Log" "sumOfAll" "I" ∈ gw := gw_m (lt_3 159 rfl) rfl
theorem kw_760 : Cond.lays "TimberValley$Log" "TimberValley$Log" "sumByPlace" "I" ∈ gw := gw_m (lt_3 161 rfl) rfl
theorem kw_763 : Cond.methodLink "TimberValley" 225 ({ cls := "TimberValley$Log", name := "comeOn", desc := "(I)V" } : MethodName) ∈ gw := gw_m (lt_3 164 rfl) rfl
theorem kw_764 : Cond.instanceMethod ({ cls := "TimberValley$Log", name := "comeOn", desc := "(I)V" } : MethodName) ∈ gw := gw_m (lt_3 165 rfl) rfl
theorem kw_765 : Cond.selects "TimberValley$Log" ({ cls := "TimberValley$Log", name := "comeOn", desc := "(I)V" } : MethodName) ({ cls := "TimberValley$Log", name := "comeOn", desc := "(I)V" } : MethodName) ∈ gw := gw_m (lt_3 166 rfl) rfl
theorem kw_766 : Cond.code ({ cls := "TimberValley$Log", name := "comeOn", desc := "(I)V" } : MethodName) prog_6_method_2_code 2 (Option.none : Option FieldType) ∈ gw := gw_m (lt_3 167 rfl) rfl
theorem kw_767 : Cond.methodLink "TimberValley$Log" 61 ({ cls := "TimberValley$Log", name := "sumNow", desc := "(Z)I" } : MethodName) ∈ gw := gw_m (lt_3 168 rfl) rfl
theorem kw_769 : Cond.instanceMethod ({ cls := "TimberValley$Log", name := "sumNow", desc := "(Z)I" } : MethodName) ∈ gw := gw_m (lt_3 170 rfl) rfl
theorem kw_770 : Cond.code ({ cls := "TimberValley$Log", name := "sumNow", desc := "(Z)I" } : MethodName) prog_6_method_10_code 4 (Option.some FieldType.int) ∈ gw := gw_m (lt_3 171 rfl) rfl
theorem kw_771 : Cond.constant "TimberValley$Log" 79 (65537 : Int32) ∈ gw := gw_m (lt_3 172 rfl) rfl
theorem kw_772 : Cond.methodLink "TimberValley" 229 ({ cls := "TimberValley", name := "become", desc := "(LTimberValley$Log;I)V" } : MethodName) ∈ gw := gw_m (lt_3 173 rfl) rfl
theorem kw_774 : Cond.instanceMethod ({ cls := "TimberValley", name := "become", desc := "(LTimberValley$Log;I)V" } : MethodName) ∈ gw := gw_m (lt_3 175 rfl) rfl
theorem kw_775 : Cond.code ({ cls := "TimberValley", name := "become", desc := "(LTimberValley$Log;I)V" } : MethodName) prog_1_method_27_code 5 (Option.none : Option FieldType) ∈ gw := gw_m (lt_3 176 rfl) rfl
theorem kw_776 : Cond.methodLink "TimberValley" 323 ({ cls := "TimberValley$Log", name := "change", desc := "(III)V" } : MethodName) ∈ gw := gw_m (lt_3 177 rfl) rfl
theorem kw_777 : Cond.instanceMethod ({ cls := "TimberValley$Log", name := "change", desc := "(III)V" } : MethodName) ∈ gw := gw_m (lt_3 178 rfl) rfl
theorem kw_778 : Cond.selects "TimberValley$Log" ({ cls := "TimberValley$Log", name := "change", desc := "(III)V" } : MethodName) ({ cls := "TimberValley$Log", name := "change", desc := "(III)V" } : MethodName) ∈ gw := gw_m (lt_3 179 rfl) rfl
theorem kw_779 : Cond.code ({ cls := "TimberValley$Log", name := "change", desc := "(III)V" } : MethodName) prog_6_method_7_code 4 (Option.none : Option FieldType) ∈ gw := gw_m (lt_3 180 rfl) rfl
theorem kw_780 : Cond.methodLink "TimberValley" 233 ({ cls := "TimberValley$Log", name := "scaleBy", desc := "(I)I" } : MethodName) ∈ gw := gw_m (lt_3 181 rfl) rfl
theorem kw_781 : Cond.instanceMethod ({ cls := "TimberValley$Log", name := "scaleBy", desc := "(I)I" } : MethodName) ∈ gw := gw_m (lt_3 182 rfl) rfl
theorem kw_782 : Cond.selects "TimberValley$Log" ({ cls := "TimberValley$Log", name := "scaleBy", desc := "(I)I" } : MethodName) ({ cls := "TimberValley$Log", name := "scaleBy", desc := "(I)I" } : MethodName) ∈ gw := gw_m (lt_3 183 rfl) rfl
theorem kw_783 : Cond.code ({ cls := "TimberValley$Log", name := "scaleBy", desc := "(I)I" } : MethodName) prog_6_method_4_code 3 (Option.some FieldType.int) ∈ gw := gw_m (lt_3 184 rfl) rfl
theorem kw_784 : Cond.methodLink "TimberValley$Log" 65 ({ cls := "java/lang/Math", name := "max", desc := "(II)I" } : MethodName) ∈ gw := gw_m (lt_3 185 rfl) rfl
theorem kw_785 : Cond.methodLink "TimberValley" 215 ({ cls := "TimberValley$Land", name := "takeStem", desc := "(III)V" } : MethodName) ∈ gw := gw_m (lt_3 186 rfl) rfl
theorem kw_786 : Cond.instanceMethod ({ cls := "TimberValley$Land", name := "takeStem", desc := "(III)V" } : MethodName) ∈ gw := gw_m (lt_3 187 rfl) rfl
theorem kw_787 : Cond.selects "TimberValley$Land" ({ cls := "TimberValley$Land", name := "takeStem", desc := "(III)V" } : MethodName) ({ cls := "TimberValley$Land", name := "takeStem", desc := "(III)V" } : MethodName) ∈ gw := gw_m (lt_3 188 rfl) rfl
theorem kw_788 : Cond.code ({ cls := "TimberValley$Land", name := "takeStem", desc := "(III)V" } : MethodName) prog_5_method_10_code 4 (Option.none : Option FieldType) ∈ gw := gw_m (lt_3 189 rfl) rfl
theorem kw_789 : Cond.methodLink "TimberValley$Land" 53 ({ cls := "TimberValley$Land", name := "stemPlace", desc := "(III)I" } : MethodName) ∈ gw := gw_m (lt_3 190 rfl) rfl
theorem kw_790 : Cond.methodLink "TimberValleyLaw" 245 ({ cls := "TimberValley", name := "log", desc := "(II)I" } : MethodName) ∈ gw := gw_m (lt_3 191 rfl) rfl
theorem kw_791 : Cond.instanceMethod ({ cls := "TimberValley", name := "log", desc := "(II)I" } : MethodName) ∈ gw := gw_m (lt_3 192 rfl) rfl
theorem kw_792 : Cond.selects "TimberValley" ({ cls := "TimberValley", name := "log", desc := "(II)I" } : MethodName) ({ cls := "TimberValley", name := "log", desc := "(II)I" } : MethodName) ∈ gw := gw_m (lt_3 193 rfl) rfl
theorem kw_793 : Cond.code ({ cls := "TimberValley", name := "log", desc := "(II)I" } : MethodName) prog_1_method_15_code 4 (Option.some FieldType.int) ∈ gw := gw_m (lt_3 194 rfl) rfl
theorem kw_794 : Cond.methodLink "TimberValley" 236 ({ cls := "TimberValley", name := "logAt", desc := "(I)LTimberValley$Log;" } : MethodName) ∈ gw := gw_m (lt_3 195 rfl) rfl
theorem kw_796 : Cond.instanceMethod ({ cls := "TimberValley", name := "logAt", desc := "(I)LTimberValley$Log;" } : MethodName) ∈ gw := gw_m (lt_3 197 rfl) rfl
theorem kw_797 : Cond.code ({ cls := "TimberValley", name := "logAt", desc := "(I)LTimberValley$Log;" } : MethodName) prog_1_method_76_code 2 (Option.some (FieldType.object "TimberValley$Log")) ∈ gw := gw_m (lt_3 198 rfl) rfl
theorem kw_798 : Cond.methodLink "TimberValley" 240 ({ cls := "TimberValley$Log", name := "told", desc := "(I)I" } : MethodName) ∈ gw := gw_m (lt_3 199 rfl) rfl
theorem kw_799 : Cond.instanceMethod ({ cls := "TimberValley$Log", name := "told", desc := "(I)I" } : MethodName) ∈ gw := gw_m (lt_3 200 rfl) rfl
theorem kw_800 : Cond.selects "TimberValley$Log" ({ cls := "TimberValley$Log", name := "told", desc := "(I)I" } : MethodName) ({ cls := "TimberValley$Log", name := "told", desc := "(I)I" } : MethodName) ∈ gw := gw_m (lt_3 201 rfl) rfl
theorem kw_801 : Cond.code ({ cls := "TimberValley$Log", name := "told", desc := "(I)I" } : MethodName) prog_6_method_9_code 2 (Option.some FieldType.int) ∈ gw := gw_m (lt_3 202 rfl) rfl
theorem kw_802 : Cond.methodLink "TimberValley$Log" 75 ({ cls := "TimberValley$Log", name := "volume", desc := "()I" } : MethodName) ∈ gw := gw_m (lt_3 203 rfl) rfl
theorem kw_803 : Cond.instanceMethod ({ cls := "TimberValley$Log", name := "volume", desc := "()I" } : MethodName) ∈ gw := gw_m (lt_3 204 rfl) rfl
theorem kw_804 : Cond.selects "TimberValley$Log" ({ cls := "TimberValley$Log", name := "volume", desc := "()I" } : MethodName) ({ cls := "TimberValley$Log", name := "volume", desc := "()I" } : MethodName) ∈ gw := gw_m (lt_3 205 rfl) rfl
theorem kw_805 : Cond.code ({ cls := "TimberValley$Log", name := "volume", desc := "()I" } : MethodName) prog_6_method_3_code 1 (Option.some FieldType.int) ∈ gw := gw_m (lt_3 206 rfl) rfl
theorem kw_806 : Cond.methodLink "TimberValleyLaw" 75 ({ cls := "TimberValley", name := "way", desc := "(III)I" } : MethodName) ∈ gw := gw_m (lt_3 207 rfl) rfl
theorem kw_807 : Cond.instanceMethod ({ cls := "TimberValley", name := "way", desc := "(III)I" } : MethodName) ∈ gw := gw_m (lt_3 208 rfl) rfl
theorem kw_808 : Cond.selects "TimberValley" ({ cls := "TimberValley", name := "way", desc := "(III)I" } : MethodName) ({ cls := "TimberValley", name := "way", desc := "(III)I" } : MethodName) ∈ gw := gw_m (lt_3 209 rfl) rfl
theorem kw_809 : Cond.code ({ cls := "TimberValley", name := "way", desc := "(III)I" } : MethodName) prog_1_method_16_code 4 (Option.some FieldType.int) ∈ gw := gw_m (lt_3 210 rfl) rfl
theorem kw_810 : Cond.methodLink "TimberValley" 243 ({ cls := "TimberValley$Land", name := "sideBySide", desc := "(II)Z" } : MethodName) ∈ gw := gw_m (lt_3 211 rfl) rfl
theorem kw_811 : Cond.static ({ cls := "TimberValley$Land", name := "sideBySide", desc := "(II)Z" } : MethodName) ∈ gw := gw_m (lt_3 212 rfl) rfl
theorem kw_812 : Cond.code ({ cls := "TimberValley$Land", name := "sideBySide", desc := "(II)Z" } : MethodName) prog_5_method_4_code 2 (Option.some FieldType.boolean) ∈ gw := gw_m (lt_3 213 rfl) rfl
theorem kw_813 : Cond.instantiable "TimberValley$Way" 5 ∈ gw := gw_m (lt_3 214 rfl) rfl
theorem kw_814 : Cond.methodLink "TimberValley" 246 ({ cls := "TimberValley$Way", name := "<init>", desc := "(III)V" } : MethodName) ∈ gw := gw_m (lt_3 215 rfl) rfl
theorem kw_815 : Cond.instanceMethod ({ cls := "TimberValley$Way", name := "<init>", desc := "(III)V" } : MethodName) ∈ gw := gw_m (lt_3 216 rfl) rfl
theorem kw_816 : Cond.code ({ cls := "TimberValley$Way", name := "<init>", desc := "(III)V" } : MethodName) prog_12_method_1_code 4 (Option.none : Option FieldType) ∈ gw := gw_m (lt_3 217 rfl) rfl
theorem kw_817 : Cond.methodLink "TimberValley$Way" 3 ({ cls := "java/lang/Object", name := "<init>", desc := "()V" } : MethodName) ∈ gw := gw_m (lt_3 218 rfl) rfl
theorem kw_818 : Cond.fieldLink "TimberValley$Way" 19 "TimberValley$Way" "kind" "I" ∈ gw := gw_m (lt_3 219 rfl) rfl
theorem kw_819 : Cond.fieldLinkNest "TimberValley" 252 "TimberValley$Way" "kind" "I" "TimberValley" ∈ lw_tbl := lt_3 220 rfl
theorem kw_820 : Cond.fieldLink "TimberValley$Way" 22 "TimberValley$Way" "from" "I" ∈ gw := gw_m (lt_3 221 rfl) rfl
theorem kw_821 : Cond.fieldLinkNest "TimberValley" 273 "TimberValley$Way" "from" "I" "TimberValley" ∈ lw_tbl := lt_3 222 rfl
theorem kw_822 : Cond.fieldLink "TimberValley$Way" 25 "TimberValley$Way" "to" "I" ∈ gw := gw_m (lt_3 223 rfl) rfl
theorem kw_823 : Cond.fieldLinkNest "TimberValley" 305 "TimberValley$Way" "to" "I" "TimberValley" ∈ lw_tbl := lt_3 224 rfl
theorem kw_824 : Cond.fieldLink "TimberValley$Way" 9 "TimberValley$Way" "laid" "Z" ∈ gw := gw_m (lt_3 225 rfl) rfl
theorem kw_825 : Cond.fieldLinkNest "TimberValley" 255 "TimberValley$Way" "laid" "Z" "TimberValley" ∈ lw_tbl := lt_3 226 rfl
theorem kw_826 : Cond.fieldLink "TimberValley$Way" 15 "TimberValley$Way" "damDay" "I" ∈ gw := gw_m (lt_3 227 rfl) rfl
theorem kw_827 : Cond.fieldLinkNest "TimberValley" 258 "TimberValley$Way" "damDay" "I" "TimberValley" ∈ lw_tbl := lt_3 228 rfl
theorem kw_828 : Cond.laysFinal "TimberValley$Way" "TimberValley$Way" "kind" "I" ∈ gw := gw_m (lt_3 229 rfl) rfl
theorem kw_830 : Cond.laysFinal "TimberValley$Way" "TimberValley$Way" "from" "I" ∈ gw := gw_m (lt_3 231 rfl) rfl
theorem kw_832 : Cond.laysFinal "TimberValley$Way" "TimberValley$Way" "to" "I" ∈ gw := gw_m (lt_3 233 rfl) rfl
theorem kw_834 : Cond.lays "TimberValley$Way" "TimberValley$Way" "laid" "Z" ∈ gw := gw_m (lt_3 235 rfl) rfl
theorem kw_836 : Cond.lays "TimberValley$Way" "TimberValley$Way" "damDay" "I" ∈ gw := gw_m (lt_3 237 rfl) rfl
theorem kw_839 : Cond.methodLink "TimberValleyLaw" 79 ({ cls := "TimberValley", name := "iron", desc := "(I)I" } : MethodName) ∈ gw := gw_m (lt_4 0 rfl) rfl
theorem kw_840 : Cond.instanceMethod ({ cls := "TimberValley", name := "iron", desc := "(I)I" } : MethodName) ∈ gw := gw_m (lt_4 1 rfl) rfl
theorem kw_841 : Cond.selects "TimberValley" ({ cls := "TimberValley", name := "iron", desc := "(I)I" } : MethodName) ({ cls := "TimberValley", name := "iron", desc := "(I)I" } : MethodName) ∈ gw := gw_m (lt_4 2 rfl) rfl
theorem kw_842 : Cond.code ({ cls := "TimberValley", name := "iron", desc := "(I)I" } : MethodName) prog_1_method_17_code 2 (Option.some FieldType.int) ∈ gw := gw_m (lt_4 3 rfl) rfl
theorem kw_843 : Cond.methodLink "TimberValleyLaw" 84 ({ cls := "TimberValley", name := "lay", desc := "(IZ)Z" } : MethodName) ∈ gw := gw_m (lt_4 4 rfl) rfl
theorem kw_844 : Cond.instanceMethod ({ cls := "TimberValley", name := "lay", desc := "(IZ)Z" } : MethodName) ∈ gw := gw_m (lt_4 5 rfl) rfl
theorem kw_845 : Cond.selects "TimberValley" ({ cls := "TimberValley", name := "lay", desc := "(IZ)Z" } : MethodName) ({ cls := "TimberValley", name := "lay", desc := "(IZ)Z" } : MethodName) ∈ gw := gw_m (lt_4 6 rfl) rfl
theorem kw_846 : Cond.code ({ cls := "TimberValley", name := "lay", desc := "(IZ)Z" } : MethodName) prog_1_method_18_code 4 (Option.some FieldType.boolean) ∈ gw := gw_m (lt_4 7 rfl) rfl
theorem kw_847 : Cond.methodLink "TimberValley" 248 ({ cls := "TimberValley", name := "wayAt", desc := "(I)LTimberValley$Way;" } : MethodName) ∈ gw := gw_m (lt_4 8 rfl) rfl
theorem kw_849 : Cond.instanceMethod ({ cls := "TimberValley", name := "wayAt", desc := "(I)LTimberValley$Way;" } : MethodName) ∈ gw := gw_m (lt_4 10 rfl) rfl
theorem kw_850 : Cond.code ({ cls := "TimberValley", name := "wayAt", desc := "(I)LTimberValley$Way;" } : MethodName) prog_1_method_78_code 2 (Option.some (FieldType.object "TimberValley$Way")) ∈ gw := gw_m (lt_4 11 rfl) rfl
theorem kw_851 : Cond.methodLink "TimberValleyLaw" 89 ({ cls := "TimberValley", name := "dam", desc := "(I)Z" } : MethodName) ∈ gw := gw_m (lt_4 12 rfl) rfl
theorem kw_852 : Cond.instanceMethod ({ cls := "TimberValley", name := "dam", desc := "(I)Z" } : MethodName) ∈ gw := gw_m (lt_4 13 rfl) rfl
theorem kw_853 : Cond.selects "TimberValley" ({ cls := "TimberValley", name := "dam", desc := "(I)Z" } : MethodName) ({ cls := "TimberValley", name := "dam", desc := "(I)Z" } : MethodName) ∈ gw := gw_m (lt_4 14 rfl) rfl
theorem kw_854 : Cond.code ({ cls := "TimberValley", name := "dam", desc := "(I)Z" } : MethodName) prog_1_method_20_code 3 (Option.some FieldType.boolean) ∈ gw := gw_m (lt_4 15 rfl) rfl
theorem kw_855 : Cond.methodLink "TimberValleyLaw" 93 ({ cls := "TimberValley", name := "carry", desc := "(I)I" } : MethodName) ∈ gw := gw_m (lt_4 16 rfl) rfl
theorem kw_856 : Cond.instanceMethod ({ cls := "TimberValley", name := "carry", desc := "(I)I" } : MethodName) ∈ gw := gw_m (lt_4 17 rfl) rfl
theorem kw_857 : Cond.selects "TimberValley" ({ cls := "TimberValley", name := "carry", desc := "(I)I" } : MethodName) ({ cls := "TimberValley", name := "carry", desc := "(I)I" } : MethodName) ∈ gw := gw_m (lt_4 18 rfl) rfl
theorem kw_858 : Cond.code ({ cls := "TimberValley", name := "carry", desc := "(I)I" } : MethodName) prog_1_method_21_code 3 (Option.some FieldType.int) ∈ gw := gw_m (lt_4 19 rfl) rfl
theorem kw_859 : Cond.methodLink "TimberValley" 261 ({ cls := "TimberValley", name := "carryNow", desc := "(LTimberValley$Way;)I" } : MethodName) ∈ gw := gw_m (lt_4 20 rfl) rfl
theorem kw_861 : Cond.instanceMethod ({ cls := "TimberValley", name := "carryNow", desc := "(LTimberValley$Way;)I" } : MethodName) ∈ gw := gw_m (lt_4 22 rfl) rfl
theorem kw_862 : Cond.code ({ cls := "TimberValley", name := "carryNow", desc := "(LTimberValley$Way;)I" } : MethodName) prog_1_method_22_code 2 (Option.some FieldType.int) ∈ gw := gw_m (lt_4 23 rfl) rfl
theorem kw_863 : Cond.methodLink "TimberValley" 265 ({ cls := "TimberValley", name := "askOfWay", desc := "(LTimberValley$Way;)V" } : MethodName) ∈ gw := gw_m (lt_4 24 rfl) rfl
theorem kw_865 : Cond.instanceMethod ({ cls := "TimberValley", name := "askOfWay", desc := "(LTimberValley$Way;)V" } : MethodName) ∈ gw := gw_m (lt_4 26 rfl) rfl
theorem kw_866 : Cond.code ({ cls := "TimberValley", name := "askOfWay", desc := "(LTimberValley$Way;)V" } : MethodName) prog_1_method_37_code 2 (Option.none : Option FieldType) ∈ gw := gw_m (lt_4 27 rfl) rfl
theorem kw_867 : Cond.methodLink "TimberValley" 269 ({ cls := "TimberValley$Way", name := "bears", desc := "(LTimberValley$Land;LTimberValley$Sky;)I" } : MethodName) ∈ gw := gw_m (lt_4 28 rfl) rfl
theorem kw_868 : Cond.instanceMethod ({ cls := "TimberValley$Way", name := "bears", desc := "(LTimberValley$Land;LTimberValley$Sky;)I" } : MethodName) ∈ gw := gw_m (lt_4 29 rfl) rfl
theorem kw_869 : Cond.selects "TimberValley$Way" ({ cls := "TimberValley$Way", name := "bears", desc := "(LTimberValley$Land;LTimberValley$Sky;)I" } : MethodName) ({ cls := "TimberValley$Way", name := "bears", desc := "(LTimberValley$Land;LTimberValley$Sky;)I" } : MethodName) ∈ gw := gw_m (lt_4 30 rfl) rfl
theorem kw_870 : Cond.code ({ cls := "TimberValley$Way", name := "bears", desc := "(LTimberValley$Land;LTimberValley$Sky;)I" } : MethodName) prog_12_method_2_code 6 (Option.some FieldType.int) ∈ gw := gw_m (lt_4 31 rfl) rfl
theorem kw_871 : Cond.methodLink "TimberValley$Way" 36 ({ cls := "TimberValley$Sky", name := "now", desc := "(I)I" } : MethodName) ∈ gw := gw_m (lt_4 32 rfl) rfl
theorem kw_872 : Cond.methodLink "TimberValley$Way" 40 ({ cls := "java/lang/Math", name := "max", desc := "(II)I" } : MethodName) ∈ gw := gw_m (lt_4 33 rfl) rfl
theorem kw_873 : Cond.methodLink "TimberValley$Way" 46 ({ cls := "TimberValley$Way", name := "streamBears", desc := "(ILTimberValley$Sky;)I" } : MethodName) ∈ gw := gw_m (lt_4 34 rfl) rfl
theorem kw_875 : Cond.instanceMethod ({ cls := "TimberValley$Way", name := "streamBears", desc := "(ILTimberValley$Sky;)I" } : MethodName) ∈ gw := gw_m (lt_4 36 rfl) rfl
theorem kw_876 : Cond.code ({ cls := "TimberValley$Way", name := "streamBears", desc := "(ILTimberValley$Sky;)I" } : MethodName) prog_12_method_3_code 4 (Option.some FieldType.int) ∈ gw := gw_m (lt_4 37 rfl) rfl
theorem kw_877 : Cond.methodLink "TimberValley$Way" 50 ({ cls := "TimberValley$Sky", name := "season", desc := "()I" } : MethodName) ∈ gw := gw_m (lt_4 38 rfl) rfl
theorem kw_878 : Cond.methodLink "TimberValleyLaw" 97 ({ cls := "TimberValley", name := "day", desc := "()I" } : MethodName) ∈ gw := gw_m (lt_4 39 rfl) rfl
theorem kw_879 : Cond.instanceMethod ({ cls := "TimberValley", name := "day", desc := "()I" } : MethodName) ∈ gw := gw_m (lt_4 40 rfl) rfl
theorem kw_880 : Cond.selects "TimberValley" ({ cls := "TimberValley", name := "day", desc := "()I" } : MethodName) ({ cls := "TimberValley", name := "day", desc := "()I" } : MethodName) ∈ gw := gw_m (lt_4 41 rfl) rfl
theorem kw_881 : Cond.code ({ cls := "TimberValley", name := "day", desc := "()I" } : MethodName) prog_1_method_23_code 4 (Option.some FieldType.int) ∈ gw := gw_m (lt_4 42 rfl) rfl
theorem kw_882 : Cond.methodLink "TimberValley" 276 ({ cls := "TimberValley", name := "carryOver", desc := "(LTimberValley$Way;)I" } : MethodName) ∈ gw := gw_m (lt_4 43 rfl) rfl
theorem kw_884 : Cond.instanceMethod ({ cls := "TimberValley", name := "carryOver", desc := "(LTimberValley$Way;)I" } : MethodName) ∈ gw := gw_m (lt_4 45 rfl) rfl
theorem kw_885 : Cond.code ({ cls := "TimberValley", name := "carryOver", desc := "(LTimberValley$Way;)I" } : MethodName) prog_1_method_24_code 6 (Option.some FieldType.int) ∈ gw := gw_m (lt_4 46 rfl) rfl
theorem kw_886 : Cond.methodLink "TimberValley" 291 ({ cls := "TimberValley$Log", name := "waitsIn", desc := "(II)Z" } : MethodName) ∈ gw := gw_m (lt_4 47 rfl) rfl
theorem kw_887 : Cond.instanceMethod ({ cls := "TimberValley$Log", name := "waitsIn", desc := "(II)Z" } : MethodName) ∈ gw := gw_m (lt_4 48 rfl) rfl
theorem kw_888 : Cond.selects "TimberValley$Log" ({ cls := "TimberValley$Log", name := "waitsIn", desc := "(II)Z" } : MethodName) ({ cls := "TimberValley$Log", name := "waitsIn", desc := "(II)Z" } : MethodName) ∈ gw := gw_m (lt_4 49 rfl) rfl
theorem kw_889 : Cond.code ({ cls := "TimberValley$Log", name := "waitsIn", desc := "(II)Z" } : MethodName) prog_6_method_6_code 3 (Option.some FieldType.boolean) ∈ gw := gw_m (lt_4 50 rfl) rfl
theorem kw_890 : Cond.methodLink "TimberValley$Log" 71 ({ cls := "TimberValley$Log", name := "liesIn", desc := "(I)Z" } : MethodName) ∈ gw := gw_m (lt_4 51 rfl) rfl
theorem kw_891 : Cond.instanceMethod ({ cls := "TimberValley$Log", name := "liesIn", desc := "(I)Z" } : MethodName) ∈ gw := gw_m (lt_4 52 rfl) rfl
theorem kw_892 : Cond.selects "TimberValley$Log" ({ cls := "TimberValley$Log", name := "liesIn", desc := "(I)Z" } : MethodName) ({ cls := "TimberValley$Log", name := "liesIn", desc := "(I)Z" } : MethodName) ∈ gw := gw_m (lt_4 53 rfl) rfl
theorem kw_893 : Cond.code ({ cls := "TimberValley$Log", name := "liesIn", desc := "(I)Z" } : MethodName) prog_6_method_5_code 2 (Option.some FieldType.boolean) ∈ gw := gw_m (lt_4 54 rfl) rfl
theorem kw_894 : Cond.methodLink "TimberValley" 294 ({ cls := "TimberValley$Log", name := "volume", desc := "()I" } : MethodName) ∈ gw := gw_m (lt_4 55 rfl) rfl
theorem kw_895 : Cond.methodLink "TimberValley" 298 ({ cls := "TimberValley", name := "moveLog", desc := "(LTimberValley$Log;LTimberValley$Way;)V" } : MethodName) ∈ gw := gw_m (lt_4 56 rfl) rfl
theorem kw_897 : Cond.instanceMethod ({ cls := "TimberValley", name := "moveLog", desc := "(LTimberValley$Log;LTimberValley$Way;)V" } : MethodName) ∈ gw := gw_m (lt_4 58 rfl) rfl
theorem kw_898 : Cond.code ({ cls := "TimberValley", name := "moveLog", desc := "(LTimberValley$Log;LTimberValley$Way;)V" } : MethodName) prog_1_method_25_code 3 (Option.none : Option FieldType) ∈ gw := gw_m (lt_4 59 rfl) rfl
theorem kw_899 : Cond.methodLink "TimberValley" 311 ({ cls := "TimberValley$Sky", name := "now", desc := "(I)I" } : MethodName) ∈ gw := gw_m (lt_4 60 rfl) rfl
theorem kw_900 : Cond.methodLink "TimberValley" 279 ({ cls := "TimberValley", name := "floatLogsAtMill", desc := "()V" } : MethodName) ∈ gw := gw_m (lt_4 61 rfl) rfl
theorem kw_902 : Cond.instanceMethod ({ cls := "TimberValley", name := "floatLogsAtMill", desc := "()V" } : MethodName) ∈ gw := gw_m (lt_4 63 rfl) rfl
theorem kw_903 : Cond.code ({ cls := "TimberValley", name := "floatLogsAtMill", desc := "()V" } : MethodName) prog_1_method_26_code 3 (Option.none : Option FieldType) ∈ gw := gw_m (lt_4 64 rfl) rfl
theorem kw_904 : Cond.methodLink "TimberValley" 317 ({ cls := "TimberValley$Log", name := "liesIn", desc := "(I)Z" } : MethodName) ∈ gw := gw_m (lt_4 65 rfl) rfl
theorem kw_905 : Cond.methodLink "TimberValley" 282 ({ cls := "TimberValley", name := "closeMonth", desc := "()V" } : MethodName) ∈ gw := gw_m (lt_4 66 rfl) rfl
theorem kw_907 : Cond.instanceMethod ({ cls := "TimberValley", name := "closeMonth", desc := "()V" } : MethodName) ∈ gw := gw_m (lt_4 68 rfl) rfl
theorem kw_908 : Cond.code ({ cls := "TimberValley", name := "closeMonth", desc := "()V" } : MethodName) prog_1_method_42_code 3 (Option.none : Option FieldType) ∈ gw := gw_m (lt_4 69 rfl) rfl
theorem kw_909 : Cond.methodLink "TimberValley" 341 ({ cls := "TimberValley", name := "numberFor", desc := "(II)I" } : MethodName) ∈ gw := gw_m (lt_4 70 rfl) rfl
theorem kw_911 : Cond.instanceMethod ({ cls := "TimberValley", name := "numberFor", desc := "(II)I" } : MethodName) ∈ gw := gw_m (lt_4 72 rfl) rfl
theorem kw_912 : Cond.code ({ cls := "TimberValley", name := "numberFor", desc := "(II)I" } : MethodName) prog_1_method_35_code 3 (Option.some FieldType.int) ∈ gw := gw_m (lt_4 73 rfl) rfl
theorem kw_913 : Cond.methodLink "TimberValley" 365 ({ cls := "TimberValley$Crew", name := "closeMonth", desc := "(I)V" } : MethodName) ∈ gw := gw_m (lt_4 74 rfl) rfl
theorem kw_914 : Cond.instanceMethod ({ cls := "TimberValley$Crew", name := "closeMonth", desc := "(I)V" } : MethodName) ∈ gw := gw_m (lt_4 75 rfl) rfl
theorem kw_915 : Cond.selects "TimberValley$Crew" ({ cls := "TimberValley$Crew", name := "closeMonth", desc := "(I)V" } : MethodName) ({ cls := "TimberValley$Crew", name := "closeMonth", desc := "(I)V" } : MethodName) ∈ gw := gw_m (lt_4 76 rfl) rfl
theorem kw_916 : Cond.code ({ cls := "TimberValley$Crew", name := "closeMonth", desc := "(I)V" } : MethodName) prog_3_method_2_code 3 (Option.none : Option FieldType) ∈ gw := gw_m (lt_4 77 rfl) rfl
theorem kw_917 : Cond.methodLink "TimberValley$Crew" 28 ({ cls := "java/lang/Math", name := "min", desc := "(II)I" } : MethodName) ∈ gw := gw_m (lt_4 78 rfl) rfl
theorem kw_918 : Cond.static ({ cls := "java/lang/Math", name := "min", desc := "(II)I" } : MethodName) ∈ gw := gw_m (lt_4 79 rfl) rfl
theorem kw_919 : Cond.code ({ cls := "java/lang/Math", name := "min", desc := "(II)I" } : MethodName) prog_18_method_69_code 2 (Option.some FieldType.int) ∈ gw := gw_m (lt_4 80 rfl) rfl
theorem kw_920 : Cond.methodLink "TimberValley" 285 ({ cls := "TimberValley$Land", name := "endYear", desc := "()V" } : MethodName) ∈ gw := gw_m (lt_4 81 rfl) rfl
theorem kw_921 : Cond.instanceMethod ({ cls := "TimberValley$Land", name := "endYear", desc := "()V" } : MethodName) ∈ gw := gw_m (lt_4 82 rfl) rfl
theorem kw_922 : Cond.selects "TimberValley$Land" ({ cls := "TimberValley$Land", name := "endYear", desc := "()V" } : MethodName) ({ cls := "TimberValley$Land", name := "endYear", desc := "()V" } : MethodName) ∈ gw := gw_m (lt_4 83 rfl) rfl
theorem kw_923 : Cond.code ({ cls := "TimberValley$Land", name := "endYear", desc := "()V" } : MethodName) prog_5_method_11_code 4 (Option.none : Option FieldType) ∈ gw := gw_m (lt_4 84 rfl) rfl
theorem kw_924 : Cond.methodLink "TimberValley$Land" 57 ({ cls := "TimberValley$Land", name := "growClass", desc := "(II)V" } : MethodName) ∈ gw := gw_m (lt_4 85 rfl) rfl
theorem kw_926 : Cond.instanceMethod ({ cls := "TimberValley$Land", name := "growClass", desc := "(II)V" } : MethodName) ∈ gw := gw_m (lt_4 87 rfl) rfl
theorem kw_927 : Cond.code ({ cls := "TimberValley$Land", name := "growClass", desc := "(II)V" } : MethodName) prog_5_method_12_code 5 (Option.none : Option FieldType) ∈ gw := gw_m (lt_4 88 rfl) rfl
theorem kw_928 : Cond.methodLink "TimberValley$Land" 61 ({ cls := "java/lang/Math", name := "min", desc := "(II)I" } : MethodName) ∈ gw := gw_m (lt_4 89 rfl) rfl
theorem kw_929 : Cond.methodLink "TimberValley" 288 ({ cls := "TimberValley$Sky", name := "nextDay", desc := "()V" } : MethodName) ∈ gw := gw_m (lt_4 90 rfl) rfl
theorem kw_930 : Cond.instanceMethod ({ cls := "TimberValley$Sky", name := "nextDay", desc := "()V" } : MethodName) ∈ gw := gw_m (lt_4 91 rfl) rfl
theorem kw_931 : Cond.selects "TimberValley$Sky" ({ cls := "TimberValley$Sky", name := "nextDay", desc := "()V" } : MethodName) ({ cls := "TimberValley$Sky", name := "nextDay", desc := "()V" } : MethodName) ∈ gw := gw_m (lt_4 92 rfl) rfl
theorem kw_932 : Cond.code ({ cls := "TimberValley$Sky", name := "nextDay", desc := "()V" } : MethodName) prog_9_method_3_code 1 (Option.none : Option FieldType) ∈ gw := gw_m (lt_4 93 rfl) rfl
theorem kw_933 : Cond.methodLink "TimberValleyLaw" 102 ({ cls := "TimberValley", name := "feed", desc := "(IIIII)I" } : MethodName) ∈ gw := gw_m (lt_4 94 rfl) rfl
theorem kw_934 : Cond.instanceMethod ({ cls := "TimberValley", name := "feed", desc := "(IIIII)I" } : MethodName) ∈ gw := gw_m (lt_4 95 rfl) rfl
theorem kw_935 : Cond.selects "TimberValley" ({ cls := "TimberValley", name := "feed", desc := "(IIIII)I" } : MethodName) ({ cls := "TimberValley", name := "feed", desc := "(IIIII)I" } : MethodName) ∈ gw := gw_m (lt_4 96 rfl) rfl
theorem kw_936 : Cond.code ({ cls := "TimberValley", name := "feed", desc := "(IIIII)I" } : MethodName) prog_1_method_28_code 6 (Option.some FieldType.int) ∈ gw := gw_m (lt_4 97 rfl) rfl
theorem kw_937 : Cond.methodLink "TimberValley" 329 ({ cls := "TimberValley$Tape", name := "append", desc := "(I)V" } : MethodName) ∈ gw := gw_m (lt_4 98 rfl) rfl
theorem kw_938 : Cond.instanceMethod ({ cls := "TimberValley$Tape", name := "append", desc := "(I)V" } : MethodName) ∈ gw := gw_m (lt_4 99 rfl) rfl
theorem kw_939 : Cond.selects "TimberValley$Tape" ({ cls := "TimberValley$Tape", name := "append", desc := "(I)V" } : MethodName) ({ cls := "TimberValley$Tape", name := "append", desc := "(I)V" } : MethodName) ∈ gw := gw_m (lt_4 100 rfl) rfl
theorem kw_940 : Cond.code ({ cls := "TimberValley$Tape", name := "append", desc := "(I)V" } : MethodName) prog_11_method_2_code 3 (Option.none : Option FieldType) ∈ gw := gw_m (lt_4 101 rfl) rfl
theorem kw_941 : Cond.methodLink "TimberValleyLaw" 106 ({ cls := "TimberValley", name := "end", desc := "(I)I" } : MethodName) ∈ gw := gw_m (lt_4 102 rfl) rfl
theorem kw_942 : Cond.instanceMethod ({ cls := "TimberValley", name := "end", desc := "(I)I" } : MethodName) ∈ gw := gw_m (lt_4 103 rfl) rfl
theorem kw_943 : Cond.selects "TimberValley" ({ cls := "TimberValley", name := "end", desc := "(I)I" } : MethodName) ({ cls := "TimberValley", name := "end", desc := "(I)I" } : MethodName) ∈ gw := gw_m (lt_4 104 rfl) rfl
theorem kw_944 : Cond.code ({ cls := "TimberValley", name := "end", desc := "(I)I" } : MethodName) prog_1_method_29_code 2 (Option.some FieldType.int) ∈ gw := gw_m (lt_4 105 rfl) rfl
theorem kw_945 : Cond.methodLink "TimberValleyLaw" 110 ({ cls := "TimberValley", name := "law", desc := "(I)I" } : MethodName) ∈ gw := gw_m (lt_4 106 rfl) rfl
theorem kw_946 : Cond.instanceMethod ({ cls := "TimberValley", name := "law", desc := "(I)I" } : MethodName) ∈ gw := gw_m (lt_4 107 rfl) rfl
theorem kw_947 : Cond.selects "TimberValley" ({ cls := "TimberValley", name := "law", desc := "(I)I" } : MethodName) ({ cls := "TimberValley", name := "law", desc := "(I)I" } : MethodName) ∈ gw := gw_m (lt_4 108 rfl) rfl
theorem kw_948 : Cond.code ({ cls := "TimberValley", name := "law", desc := "(I)I" } : MethodName) prog_1_method_30_code 2 (Option.some FieldType.int) ∈ gw := gw_m (lt_4 109 rfl) rfl
theorem kw_949 : Cond.methodLink "TimberValley" 335 ({ cls := "TimberValley$Statutes", name := "tell", desc := "(ILTimberValley$Tape;)I" } : MethodName) ∈ gw := gw_m (lt_4 110 rfl) rfl
theorem kw_950 : Cond.instanceMethod ({ cls := "TimberValley$Statutes", name := "tell", desc := "(ILTimberValley$Tape;)I" } : MethodName) ∈ gw := gw_m (lt_4 111 rfl) rfl
theorem kw_951 : Cond.selects "TimberValley$Statutes" ({ cls := "TimberValley$Statutes", name := "tell", desc := "(ILTimberValley$Tape;)I" } : MethodName) ({ cls := "TimberValley$Statutes", name := "tell", desc := "(ILTimberValley$Tape;)I" } : MethodName) ∈ gw := gw_m (lt_4 112 rfl) rfl
theorem kw_952 : Cond.code ({ cls := "TimberValley$Statutes", name := "tell", desc := "(ILTimberValley$Tape;)I" } : MethodName) prog_10_method_2_code 3 (Option.some FieldType.int) ∈ gw := gw_m (lt_4 113 rfl) rfl
theorem kw_953 : Cond.methodLink "TimberValley$Statutes" 53 ({ cls := "TimberValley$Statutes", name := "readText", desc := "(LTimberValley$Tape;)V" } : MethodName) ∈ gw := gw_m (lt_4 114 rfl) rfl
theorem kw_955 : Cond.instanceMethod ({ cls := "TimberValley$Statutes", name := "readText", desc := "(LTimberValley$Tape;)V" } : MethodName) ∈ gw := gw_m (lt_4 116 rfl) rfl
theorem kw_956 : Cond.code ({ cls := "TimberValley$Statutes", name := "readText", desc := "(LTimberValley$Tape;)V" } : MethodName) prog_10_method_3_code 4 (Option.none : Option FieldType) ∈ gw := gw_m (lt_4 117 rfl) rfl
theorem kw_957 : Cond.methodLink "TimberValley$Statutes" 62 ({ cls := "TimberValley$Tape", name := "rewind", desc := "()V" } : MethodName) ∈ gw := gw_m (lt_4 118 rfl) rfl
theorem kw_958 : Cond.instanceMethod ({ cls := "TimberValley$Tape", name := "rewind", desc := "()V" } : MethodName) ∈ gw := gw_m (lt_4 119 rfl) rfl
theorem kw_959 : Cond.selects "TimberValley$Tape" ({ cls := "TimberValley$Tape", name := "rewind", desc := "()V" } : MethodName) ({ cls := "TimberValley$Tape", name := "rewind", desc := "()V" } : MethodName) ∈ gw := gw_m (lt_4 120 rfl) rfl
theorem kw_960 : Cond.code ({ cls := "TimberValley$Tape", name := "rewind", desc := "()V" } : MethodName) prog_11_method_3_code 1 (Option.none : Option FieldType) ∈ gw := gw_m (lt_4 121 rfl) rfl
theorem kw_961 : Cond.methodLink "TimberValley$Tape" 28 ({ cls := "TimberValley$Tape", name := "next", desc := "()V" } : MethodName) ∈ gw := gw_m (lt_4 122 rfl) rfl
theorem kw_962 : Cond.instanceMethod ({ cls := "TimberValley$Tape", name := "next", desc := "()V" } : MethodName) ∈ gw := gw_m (lt_4 123 rfl) rfl
theorem kw_963 : Cond.selects "TimberValley$Tape" ({ cls := "TimberValley$Tape", name := "next", desc := "()V" } : MethodName) ({ cls := "TimberValley$Tape", name := "next", desc := "()V" } : MethodName) ∈ gw := gw_m (lt_4 124 rfl) rfl
theorem kw_964 : Cond.code ({ cls := "TimberValley$Tape", name := "next", desc := "()V" } : MethodName) prog_11_method_4_code 2 (Option.none : Option FieldType) ∈ gw := gw_m (lt_4 125 rfl) rfl
theorem kw_965 : Cond.methodLink "TimberValley$Tape" 31 ({ cls := "TimberValley$Tape", name := "isBlank", desc := "(I)Z" } : MethodName) ∈ gw := gw_m (lt_4 126 rfl) rfl
theorem kw_966 : Cond.static ({ cls := "TimberValley$Tape", name := "isBlank", desc := "(I)Z" } : MethodName) ∈ gw := gw_m (lt_4 127 rfl) rfl
theorem kw_967 : Cond.code ({ cls := "TimberValley$Tape", name := "isBlank", desc := "(I)Z" } : MethodName) prog_11_method_7_code 1 (Option.some FieldType.boolean) ∈ gw := gw_m (lt_4 128 rfl) rfl
theorem kw_968 : Cond.methodLink "TimberValley$Tape" 35 ({ cls := "TimberValley$Tape", name := "isLetter", desc := "(I)Z" } : MethodName) ∈ gw := gw_m (lt_4 129 rfl) rfl
theorem kw_969 : Cond.static ({ cls := "TimberValley$Tape", name := "isLetter", desc := "(I)Z" } : MethodName) ∈ gw := gw_m (lt_4 130 rfl) rfl
theorem kw_970 : Cond.code ({ cls := "TimberValley$Tape", name := "isLetter", desc := "(I)Z" } : MethodName) prog_11_method_8_code 1 (Option.some FieldType.boolean) ∈ gw := gw_m (lt_4 131 rfl) rfl
theorem kw_971 : Cond.methodLinkNest "TimberValley$Tape" 55 ({ cls := "TimberValley", name := "within", desc := "(III)Z" } : MethodName) "TimberValley" ∈ lw_tbl := lt_4 132 rfl
theorem kw_972 : Cond.methodLink "TimberValley$Tape" 38 ({ cls := "TimberValley$Tape", name := "behindLetters", desc := "(I)I" } : MethodName) ∈ gw := gw_m (lt_4 133 rfl) rfl
theorem kw_974 : Cond.instanceMethod ({ cls := "TimberValley$Tape", name := "behindLetters", desc := "(I)I" } : MethodName) ∈ gw := gw_m (lt_4 135 rfl) rfl
theorem kw_975 : Cond.code ({ cls := "TimberValley$Tape", name := "behindLetters", desc := "(I)I" } : MethodName) prog_11_method_5_code 3 (Option.some FieldType.int) ∈ gw := gw_m (lt_4 136 rfl) rfl
theorem kw_976 : Cond.methodLink "TimberValley$Tape" 42 ({ cls := "TimberValley$Tape", name := "isDigit", desc := "(I)Z" } : MethodName) ∈ gw := gw_m (lt_4 137 rfl) rfl
theorem kw_977 : Cond.static ({ cls := "TimberValley$Tape", name := "isDigit", desc := "(I)Z" } : MethodName) ∈ gw := gw_m (lt_4 138 rfl) rfl
theorem kw_978 : Cond.code ({ cls := "TimberValley$Tape", name := "isDigit", desc := "(I)Z" } : MethodName) prog_11_method_9_code 1 (Option.some FieldType.boolean) ∈ gw := gw_m (lt_4 139 rfl) rfl
theorem kw_979 : Cond.methodLink "TimberValley$Tape" 45 ({ cls := "TimberValley$Tape", name := "behindDigits", desc := "(I)I" } : MethodName) ∈ gw := gw_m (lt_4 140 rfl) rfl
theorem kw_981 : Cond.instanceMethod ({ cls := "TimberValley$Tape", name := "behindDigits", desc := "(I)I" } : MethodName) ∈ gw := gw_m (lt_4 142 rfl) rfl
theorem kw_982 : Cond.code ({ cls := "TimberValley$Tape", name := "behindDigits", desc := "(I)I" } : MethodName) prog_11_method_6_code 3 (Option.some FieldType.int) ∈ gw := gw_m (lt_4 143 rfl) rfl
theorem kw_984 : Cond.methodLink "TimberValley$Tape" 50 ({ cls := "java/lang/String", name := "indexOf", desc := "(I)I" } : MethodName) ∈ gw := gw_m (lt_4 145 rfl) rfl
theorem kw_985 : Cond.instanceMethod ({ cls := "java/lang/String", name := "indexOf", desc := "(I)I" } : MethodName) ∈ gw := gw_m (lt_4 146 rfl) rfl
theorem kw_986 : Cond.selects "java/lang/String" ({ cls := "java/lang/String", name := "indexOf", desc := "(I)I" } : MethodName) ({ cls := "java/lang/String", name := "indexOf", desc := "(I)I" } : MethodName) ∈ gw := gw_m (lt_4 147 rfl) rfl
theorem kw_987 : Cond.code ({ cls := "java/lang/String", name := "indexOf", desc := "(I)I" } : MethodName) prog_20_method_79_code 2 (Option.some FieldType.int) ∈ gw := gw_m (lt_4 148 rfl) rfl
theorem kw_988 : Cond.methodLink "java/lang/String" 633 ({ cls := "java/lang/String", name := "indexOf", desc := "(II)I" } : MethodName) ∈ gw := gw_m (lt_4 149 rfl) rfl
theorem kw_989 : Cond.instanceMethod ({ cls := "java/lang/String", name := "indexOf", desc := "(II)I" } : MethodName) ∈ gw := gw_m (lt_4 150 rfl) rfl
theorem kw_990 : Cond.selects "java/lang/String" ({ cls := "java/lang/String", name := "indexOf", desc := "(II)I" } : MethodName) ({ cls := "java/lang/String", name := "indexOf", desc := "(II)I" } : MethodName) ∈ gw := gw_m (lt_4 151 rfl) rfl
theorem kw_991 : Cond.code ({ cls := "java/lang/String", name := "indexOf", desc := "(II)I" } : MethodName) prog_20_method_80_code 3 (Option.some FieldType.int) ∈ gw := gw_m (lt_4 152 rfl) rfl
theorem kw_992 : Cond.methodLink "java/lang/String" 492 ({ cls := "java/lang/String", name := "isLatin1", desc := "()Z" } : MethodName) ∈ gw := gw_m (lt_4 153 rfl) rfl
theorem kw_993 : Cond.instanceMethod ({ cls := "java/lang/String", name := "isLatin1", desc := "()Z" } : MethodName) ∈ gw := gw_m (lt_4 154 rfl) rfl
theorem kw_994 : Cond.selects "java/lang/String" ({ cls := "java/lang/String", name := "isLatin1", desc := "()Z" } : MethodName) ({ cls := "java/lang/String", name := "isLatin1", desc := "()Z" } : MethodName) ∈ gw := gw_m (lt_4 155 rfl) rfl
theorem kw_995 : Cond.code ({ cls := "java/lang/String", name := "isLatin1", desc := "()Z" } : MethodName) prog_20_method_154_code 1 (Option.some FieldType.boolean) ∈ gw := gw_m (lt_4 156 rfl) rfl
theorem kw_996 : Cond.fieldLink "java/lang/String" 38 "java/lang/String" "COMPACT_STRINGS" "Z" ∈ gw := gw_m (lt_4 157 rfl) rfl
theorem kw_998 : Cond.methodLink "java/lang/String" 505 ({ cls := "java/lang/String", name := "length", desc := "()I" } : MethodName) ∈ gw := gw_m (lt_4 159 rfl) rfl
theorem kw_999 : Cond.instanceMethod ({ cls := "java/lang/String", name := "length", desc := "()I" } : MethodName) ∈ gw := gw_m (lt_4 160 rfl) rfl
theorem kw_1000 : Cond.selects "java/lang/String" ({ cls := "java/lang/String", name := "length", desc := "()I" } : MethodName) ({ cls := "java/lang/String", name := "length", desc := "()I" } : MethodName) ∈ gw := gw_m (lt_4 161 rfl) rfl
theorem kw_1001 : Cond.code ({ cls := "java/lang/String", name := "length", desc := "()I" } : MethodName) prog_20_method_54_code 1 (Option.some FieldType.int) ∈ gw := gw_m (lt_4 162 rfl) rfl
theorem kw_1002 : Cond.methodLink "java/lang/String" 335 ({ cls := "java/lang/String", name := "coder", desc := "()B" } : MethodName) ∈ gw := gw_m (lt_4 163 rfl) rfl
theorem kw_1003 : Cond.instanceMethod ({ cls := "java/lang/String", name := "coder", desc := "()B" } : MethodName) ∈ gw := gw_m (lt_4 164 rfl) rfl
theorem kw_1004 : Cond.selects "java/lang/String" ({ cls := "java/lang/String", name := "coder", desc := "()B" } : MethodName) ({ cls := "java/lang/String", name := "coder", desc := "()B" } : MethodName) ∈ gw := gw_m (lt_4 165 rfl) rfl
theorem kw_1005 : Cond.code ({ cls := "java/lang/String", name := "coder", desc := "()B" } : MethodName) prog_20_method_152_code 1 (Option.some FieldType.byte) ∈ gw := gw_m (lt_4 166 rfl) rfl
theorem kw_1006 : Cond.methodLink "java/lang/String" 637 ({ cls := "java/lang/StringLatin1", name := "indexOf", desc := "([BIII)I" } : MethodName) ∈ gw := gw_m (lt_4 167 rfl) rfl
theorem kw_1007 : Cond.static ({ cls := "java/lang/StringLatin1", name := "indexOf", desc := "([BIII)I" } : MethodName) ∈ gw := gw_m (lt_4 168 rfl) rfl
theorem kw_1008 : Cond.code ({ cls := "java/lang/StringLatin1", name := "indexOf", desc := "([BIII)I" } : MethodName) prog_21_method_22_code 4 (Option.some FieldType.int) ∈ gw := gw_m (lt_4 169 rfl) rfl
theorem kw_1009 : Cond.methodLink "java/lang/StringLatin1" 88 ({ cls := "java/lang/StringLatin1", name := "canEncode", desc := "(I)Z" } : MethodName) ∈ gw := gw_m (lt_4 170 rfl) rfl
theorem kw_1010 : Cond.static ({ cls := "java/lang/StringLatin1", name := "canEncode", desc := "(I)Z" } : MethodName) ∈ gw := gw_m (lt_4 171 rfl) rfl
theorem kw_1011 : Cond.code ({ cls := "java/lang/StringLatin1", name := "canEncode", desc := "(I)Z" } : MethodName) prog_21_method_4_code 1 (Option.some FieldType.boolean) ∈ gw := gw_m (lt_4 172 rfl) rfl
theorem kw_1012 : Cond.methodLink "java/lang/StringLatin1" 92 ({ cls := "java/lang/Math", name := "max", desc := "(II)I" } : MethodName) ∈ gw := gw_m (lt_4 173 rfl) rfl
theorem kw_1013 : Cond.methodLink "java/lang/StringLatin1" 38 ({ cls := "java/lang/Math", name := "min", desc := "(II)I" } : MethodName) ∈ gw := gw_m (lt_4 174 rfl) rfl
theorem kw_1014 : Cond.methodLink "java/lang/StringLatin1" 95 ({ cls := "java/lang/StringLatin1", name := "indexOfChar", desc := "([BIII)I" } : MethodName) ∈ gw := gw_m (lt_4 175 rfl) rfl
theorem kw_1015 : Cond.static ({ cls := "java/lang/StringLatin1", name := "indexOfChar", desc := "([BIII)I" } : MethodName) ∈ gw := gw_m (lt_4 176 rfl) rfl
theorem kw_1016 : Cond.code ({ cls := "java/lang/StringLatin1", name := "indexOfChar", desc := "([BIII)I" } : MethodName) prog_21_method_23_code 6 (Option.some FieldType.int) ∈ gw := gw_m (lt_4 177 rfl) rfl
theorem kw_1017 : Cond.methodLink "java/lang/String" 640 ({ cls := "java/lang/StringUTF16", name := "indexOf", desc := "([BIII)I" } : MethodName) ∈ gw := gw_m (lt_4 178 rfl) rfl
theorem kw_1018 : Cond.static ({ cls := "java/lang/StringUTF16", name := "indexOf", desc := "([BIII)I" } : MethodName) ∈ gw := gw_m (lt_4 179 rfl) rfl
theorem kw_1019 : Cond.code ({ cls := "java/lang/StringUTF16", name := "indexOf", desc := "([BIII)I" } : MethodName) prog_22_method_40_code 4 (Option.some FieldType.int) ∈ gw := gw_m (lt_4 180 rfl) rfl
theorem kw_1020 : Cond.methodLink "java/lang/StringUTF16" 224 ({ cls := "java/lang/Math", name := "max", desc := "(II)I" } : MethodName) ∈ gw := gw_m (lt_4 181 rfl) rfl
theorem kw_1021 : Cond.methodLink "java/lang/StringUTF16" 183 ({ cls := "java/lang/Math", name := "min", desc := "(II)I" } : MethodName) ∈ gw := gw_m (lt_4 182 rfl) rfl
theorem kw_1022 : Cond.constant "java/lang/StringUTF16" 227 (65536 : Int32) ∈ gw := gw_m (lt_4 183 rfl) rfl
theorem kw_1023 : Cond.methodLink "java/lang/StringUTF16" 228 ({ cls := "java/lang/StringUTF16", name := "indexOfChar", desc := "([BIII)I" } : MethodName) ∈ gw := gw_m (lt_4 184 rfl) rfl
theorem kw_1024 : Cond.static ({ cls := "java/lang/StringUTF16", name := "indexOfChar", desc := "([BIII)I" } : MethodName) ∈ gw := gw_m (lt_4 185 rfl) rfl
theorem kw_1025 : Cond.code ({ cls := "java/lang/StringUTF16", name := "indexOfChar", desc := "([BIII)I" } : MethodName) prog_22_method_47_code 4 (Option.some FieldType.int) ∈ gw := gw_m (lt_4 186 rfl) rfl
theorem kw_1026 : Cond.methodLink "java/lang/StringUTF16" 96 ({ cls := "java/lang/StringUTF16", name := "checkBoundsBeginEnd", desc := "(II[B)V" } : MethodName) ∈ gw := gw_m (lt_4 187 rfl) rfl
theorem kw_1027 : Cond.static ({ cls := "java/lang/StringUTF16", name := "checkBoundsBeginEnd", desc := "(II[B)V" } : MethodName) ∈ gw := gw_m (lt_4 188 rfl) rfl
theorem kw_1028 : Cond.code ({ cls := "java/lang/StringUTF16", name := "checkBoundsBeginEnd", desc := "(II[B)V" } : MethodName) prog_22_method_93_code 3 (Option.none : Option FieldType) ∈ gw := gw_m (lt_4 189 rfl) rfl
theorem kw_1029 : Cond.methodLink "java/lang/StringUTF16" 48 ({ cls := "java/lang/StringUTF16", name := "length", desc := "([B)I" } : MethodName) ∈ gw := gw_m (lt_4 190 rfl) rfl
theorem kw_1030 : Cond.static ({ cls := "java/lang/StringUTF16", name := "length", desc := "([B)I" } : MethodName) ∈ gw := gw_m (lt_4 191 rfl) rfl
theorem kw_1031 : Cond.code ({ cls := "java/lang/StringUTF16", name := "length", desc := "([B)I" } : MethodName) prog_22_method_6_code 1 (Option.some FieldType.int) ∈ gw := gw_m (lt_4 192 rfl) rfl
theorem kw_1032 : Cond.methodLink "java/lang/StringUTF16" 241 ({ cls := "java/lang/String", name := "checkBoundsBeginEnd", desc := "(III)V" } : MethodName) ∈ gw := gw_m (lt_4 193 rfl) rfl
theorem kw_1033 : Cond.static ({ cls := "java/lang/String", name := "checkBoundsBeginEnd", desc := "(III)V" } : MethodName) ∈ gw := gw_m (lt_4 194 rfl) rfl
theorem kw_1034 : Cond.code ({ cls := "java/lang/String", name := "checkBoundsBeginEnd", desc := "(III)V" } : MethodName) prog_20_method_158_code 3 (Option.none : Option FieldType) ∈ gw := gw_m (lt_4 195 rfl) rfl
theorem kw_1035 : Cond.fieldLink "java/lang/String" 1053 "jdk/internal/util/Preconditions" "SIOOBE_FORMATTER" "Ljava/util/function/BiFunction;" ∈ gw := gw_m (lt_4 196 rfl) rfl
theorem kw_1037 : Cond.methodLink "java/lang/String" 1062 ({ cls := "jdk/internal/util/Preconditions", name := "checkFromToIndex", desc := "(IIILjava/util/function/BiFunction;)I" } : MethodName) ∈ gw := gw_m (lt_4 198 rfl) rfl
theorem kw_1038 : Cond.static ({ cls := "jdk/internal/util/Preconditions", name := "checkFromToIndex", desc := "(IIILjava/util/function/BiFunction;)I" } : MethodName) ∈ gw := gw_m (lt_4 199 rfl) rfl
theorem kw_1039 : Cond.code ({ cls := "jdk/internal/util/Preconditions", name := "checkFromToIndex", desc := "(IIILjava/util/function/BiFunction;)I" } : MethodName) prog_26_method_12_code 4 (Option.some FieldType.int) ∈ gw := gw_m (lt_4 200 rfl) rfl
theorem kw_1040 : Cond.methodLink "java/lang/StringUTF16" 244 ({ cls := "java/lang/StringUTF16", name := "indexOfCharUnsafe", desc := "([BIII)I" } : MethodName) ∈ gw := gw_m (lt_4 201 rfl) rfl
theorem kw_1041 : Cond.static ({ cls := "java/lang/StringUTF16", name := "indexOfCharUnsafe", desc := "([BIII)I" } : MethodName) ∈ gw := gw_m (lt_4 202 rfl) rfl
theorem kw_1042 : Cond.code ({ cls := "java/lang/StringUTF16", name := "indexOfCharUnsafe", desc := "([BIII)I" } : MethodName) prog_22_method_48_code 5 (Option.some FieldType.int) ∈ gw := gw_m (lt_4 203 rfl) rfl
theorem kw_1043 : Cond.methodLink "java/lang/StringUTF16" 71 ({ cls := "java/lang/StringUTF16", name := "getChar", desc := "([BI)C" } : MethodName) ∈ gw := gw_m (lt_4 204 rfl) rfl
theorem kw_1044 : Cond.static ({ cls := "java/lang/StringUTF16", name := "getChar", desc := "([BI)C" } : MethodName) ∈ gw := gw_m (lt_4 205 rfl) rfl
theorem kw_1045 : Cond.code ({ cls := "java/lang/StringUTF16", name := "getChar", desc := "([BI)C" } : MethodName) prog_22_method_5_code 2 (Option.some FieldType.char) ∈ gw := gw_m (lt_4 206 rfl) rfl
theorem kw_1046 : Cond.fieldLink "java/lang/StringUTF16" 44 "java/lang/StringUTF16" "$assertionsDisabled" "Z" ∈ gw := gw_m (lt_4 207 rfl) rfl
theorem kw_1048 : Cond.fieldLink "java/lang/StringUTF16" 59 "java/lang/StringUTF16" "HI_BYTE_SHIFT" "I" ∈ gw := gw_m (lt_4 209 rfl) rfl
theorem kw_1050 : Cond.fieldLink "java/lang/StringUTF16" 63 "java/lang/StringUTF16" "LO_BYTE_SHIFT" "I" ∈ gw := gw_m (lt_4 211 rfl) rfl
theorem kw_1052 : Cond.methodLink "java/lang/StringUTF16" 232 ({ cls := "java/lang/StringUTF16", name := "indexOfSupplementary", desc := "([BIII)I" } : MethodName) ∈ gw := gw_m (lt_4 213 rfl) rfl
theorem kw_1053 : Cond.static ({ cls := "java/lang/StringUTF16", name := "indexOfSupplementary", desc := "([BIII)I" } : MethodName) ∈ gw := gw_m (lt_4 214 rfl) rfl
theorem kw_1054 : Cond.code ({ cls := "java/lang/StringUTF16", name := "indexOfSupplementary", desc := "([BIII)I" } : MethodName) prog_22_method_49_code 7 (Option.some FieldType.int) ∈ gw := gw_m (lt_4 215 rfl) rfl
theorem kw_1055 : Cond.methodLink "java/lang/StringUTF16" 164 ({ cls := "java/lang/Character", name := "isValidCodePoint", desc := "(I)Z" } : MethodName) ∈ gw := gw_m (lt_4 216 rfl) rfl
theorem kw_1056 : Cond.static ({ cls := "java/lang/Character", name := "isValidCodePoint", desc := "(I)Z" } : MethodName) ∈ gw := gw_m (lt_4 217 rfl) rfl
theorem kw_1057 : Cond.code ({ cls := "java/lang/Character", name := "isValidCodePoint", desc := "(I)Z" } : MethodName) prog_15_method_11_code 2 (Option.some FieldType.boolean) ∈ gw := gw_m (lt_4 218 rfl) rfl
theorem kw_1058 : Cond.methodLink "java/lang/StringUTF16" 157 ({ cls := "java/lang/Character", name := "highSurrogate", desc := "(I)C" } : MethodName) ∈ gw := gw_m (lt_4 219 rfl) rfl
theorem kw_1059 : Cond.static ({ cls := "java/lang/Character", name := "highSurrogate", desc := "(I)C" } : MethodName) ∈ gw := gw_m (lt_4 220 rfl) rfl
theorem kw_1060 : Cond.code ({ cls := "java/lang/Character", name := "highSurrogate", desc := "(I)C" } : MethodName) prog_15_method_28_code 1 (Option.some FieldType.char) ∈ gw := gw_m (lt_4 221 rfl) rfl
theorem kw_1061 : Cond.constant "java/lang/Character" 110 (55232 : Int32) ∈ gw := gw_m (lt_4 222 rfl) rfl
theorem kw_1062 : Cond.methodLink "java/lang/StringUTF16" 161 ({ cls := "java/lang/Character", name := "lowSurrogate", desc := "(I)C" } : MethodName) ∈ gw := gw_m (lt_4 223 rfl) rfl
theorem kw_1063 : Cond.static ({ cls := "java/lang/Character", name := "lowSurrogate", desc := "(I)C" } : MethodName) ∈ gw := gw_m (lt_4 224 rfl) rfl
theorem kw_1064 : Cond.code ({ cls := "java/lang/Character", name := "lowSurrogate", desc := "(I)C" } : MethodName) prog_15_method_29_code 1 (Option.some FieldType.char) ∈ gw := gw_m (lt_4 225 rfl) rfl
theorem kw_1065 : Cond.constant "java/lang/Character" 76 (56320 : Int32) ∈ gw := gw_m (lt_4 226 rfl) rfl
theorem kw_1066 : Cond.methodLink "TimberValley$Statutes" 65 ({ cls := "TimberValley$Tape", name := "isEnd", desc := "()Z" } : MethodName) ∈ gw := gw_m (lt_4 227 rfl) rfl
theorem kw_1067 : Cond.instanceMethod ({ cls := "TimberValley$Tape", name := "isEnd", desc := "()Z" } : MethodName) ∈ gw := gw_m (lt_4 228 rfl) rfl
theorem kw_1068 : Cond.selects "TimberValley$Tape" ({ cls := "TimberValley$Tape", name := "isEnd", desc := "()Z" } : MethodName) ({ cls := "TimberValley$Tape", name := "isEnd", desc := "()Z" } : MethodName) ∈ gw := gw_m (lt_4 229 rfl) rfl
theorem kw_1069 : Cond.code ({ cls := "TimberValley$Tape", name := "isEnd", desc := "()Z" } : MethodName) prog_11_method_10_code 1 (Option.some FieldType.boolean) ∈ gw := gw_m (lt_4 230 rfl) rfl
theorem kw_1070 : Cond.methodLink "TimberValley$Statutes" 69 ({ cls := "TimberValley$Statutes", name := "take", desc := "(LTimberValley$Tape;I)I" } : MethodName) ∈ gw := gw_m (lt_4 231 rfl) rfl
theorem kw_1072 : Cond.instanceMethod ({ cls := "TimberValley$Statutes", name := "take", desc := "(LTimberValley$Tape;I)I" } : MethodName) ∈ gw := gw_m (lt_4 233 rfl) rfl
theorem kw_1073 : Cond.code ({ cls := "TimberValley$Statutes", name := "take", desc := "(LTimberValley$Tape;I)I" } : MethodName) prog_10_method_4_code 3 (Option.some FieldType.int) ∈ gw := gw_m (lt_4 234 rfl) rfl
theorem kw_1074 : Cond.methodLink "TimberValley$Statutes" 79 ({ cls := "TimberValley$Statutes", name := "takeVerb", desc := "(LTimberValley$Tape;)I" } : MethodName) ∈ gw := gw_m (lt_4 235 rfl) rfl
theorem kw_1076 : Cond.instanceMethod ({ cls := "TimberValley$Statutes", name := "takeVerb", desc := "(LTimberValley$Tape;)I" } : MethodName) ∈ gw := gw_m (lt_4 237 rfl) rfl
theorem kw_1077 : Cond.code ({ cls := "TimberValley$Statutes", name := "takeVerb", desc := "(LTimberValley$Tape;)I" } : MethodName) prog_10_method_5_code 3 (Option.some FieldType.int) ∈ gw := gw_m (lt_4 238 rfl) rfl
theorem kw_1079 : Cond.methodLink "TimberValley$Statutes" 85 ({ cls := "TimberValley$Tape", name := "wordIn", desc := "(Ljava/lang/String;)I" } : MethodName) ∈ gw := gw_m (lt_5 0 rfl) rfl
theorem kw_1080 : Cond.instanceMethod ({ cls := "TimberValley$Tape", name := "wordIn", desc := "(Ljava/lang/String;)I" } : MethodName) ∈ gw := gw_m (lt_5 1 rfl) rfl
theorem kw_1081 : Cond.selects "TimberValley$Tape" ({ cls := "TimberValley$Tape", name := "wordIn", desc := "(Ljava/lang/String;)I" } : MethodName) ({ cls := "TimberValley$Tape", name := "wordIn", desc := "(Ljava/lang/String;)I" } : MethodName) ∈ gw := gw_m (lt_5 2 rfl) rfl
theorem kw_1082 : Cond.code ({ cls := "TimberValley$Tape", name := "wordIn", desc := "(Ljava/lang/String;)I" } : MethodName) prog_11_method_12_code 5 (Option.some FieldType.int) ∈ gw := gw_m (lt_5 3 rfl) rfl
theorem kw_1083 : Cond.methodLink "TimberValley$Tape" 59 ({ cls := "java/lang/String", name := "length", desc := "()I" } : MethodName) ∈ gw := gw_m (lt_5 4 rfl) rfl
theorem kw_1084 : Cond.methodLink "TimberValley$Tape" 67 ({ cls := "java/lang/String", name := "charAt", desc := "(I)C" } : MethodName) ∈ gw := gw_m (lt_5 5 rfl) rfl
theorem kw_1085 : Cond.instanceMethod ({ cls := "java/lang/String", name := "charAt", desc := "(I)C" } : MethodName) ∈ gw := gw_m (lt_5 6 rfl) rfl
theorem kw_1086 : Cond.selects "java/lang/String" ({ cls := "java/lang/String", name := "charAt", desc := "(I)C" } : MethodName) ({ cls := "java/lang/String", name := "charAt", desc := "(I)C" } : MethodName) ∈ gw := gw_m (lt_5 7 rfl) rfl
theorem kw_1087 : Cond.code ({ cls := "java/lang/String", name := "charAt", desc := "(I)C" } : MethodName) prog_20_method_56_code 2 (Option.some FieldType.char) ∈ gw := gw_m (lt_5 8 rfl) rfl
theorem kw_1088 : Cond.methodLink "java/lang/String" 495 ({ cls := "java/lang/StringLatin1", name := "charAt", desc := "([BI)C" } : MethodName) ∈ gw := gw_m (lt_5 9 rfl) rfl
theorem kw_1089 : Cond.static ({ cls := "java/lang/StringLatin1", name := "charAt", desc := "([BI)C" } : MethodName) ∈ gw := gw_m (lt_5 10 rfl) rfl
theorem kw_1090 : Cond.code ({ cls := "java/lang/StringLatin1", name := "charAt", desc := "([BI)C" } : MethodName) prog_21_method_2_code 2 (Option.some FieldType.char) ∈ gw := gw_m (lt_5 11 rfl) rfl
theorem kw_1091 : Cond.methodLink "java/lang/StringLatin1" 9 ({ cls := "java/lang/String", name := "checkIndex", desc := "(II)V" } : MethodName) ∈ gw := gw_m (lt_5 12 rfl) rfl
theorem kw_1092 : Cond.static ({ cls := "java/lang/String", name := "checkIndex", desc := "(II)V" } : MethodName) ∈ gw := gw_m (lt_5 13 rfl) rfl
theorem kw_1093 : Cond.code ({ cls := "java/lang/String", name := "checkIndex", desc := "(II)V" } : MethodName) prog_20_method_155_code 2 (Option.none : Option FieldType) ∈ gw := gw_m (lt_5 14 rfl) rfl
theorem kw_1094 : Cond.methodLink "java/lang/String" 1059 ({ cls := "jdk/internal/util/Preconditions", name := "checkIndex", desc := "(IILjava/util/function/BiFunction;)I" } : MethodName) ∈ gw := gw_m (lt_5 15 rfl) rfl
theorem kw_1095 : Cond.static ({ cls := "jdk/internal/util/Preconditions", name := "checkIndex", desc := "(IILjava/util/function/BiFunction;)I" } : MethodName) ∈ gw := gw_m (lt_5 16 rfl) rfl
theorem kw_1096 : Cond.code ({ cls := "jdk/internal/util/Preconditions", name := "checkIndex", desc := "(IILjava/util/function/BiFunction;)I" } : MethodName) prog_26_method_11_code 3 (Option.some FieldType.int) ∈ gw := gw_m (lt_5 17 rfl) rfl
theorem kw_1097 : Cond.methodLink "java/lang/String" 498 ({ cls := "java/lang/StringUTF16", name := "charAt", desc := "([BI)C" } : MethodName) ∈ gw := gw_m (lt_5 18 rfl) rfl
theorem kw_1098 : Cond.static ({ cls := "java/lang/StringUTF16", name := "charAt", desc := "([BI)C" } : MethodName) ∈ gw := gw_m (lt_5 19 rfl) rfl
theorem kw_1099 : Cond.code ({ cls := "java/lang/StringUTF16", name := "charAt", desc := "([BI)C" } : MethodName) prog_22_method_83_code 2 (Option.some FieldType.char) ∈ gw := gw_m (lt_5 20 rfl) rfl
theorem kw_1100 : Cond.methodLink "java/lang/StringUTF16" 67 ({ cls := "java/lang/StringUTF16", name := "checkIndex", desc := "(I[B)V" } : MethodName) ∈ gw := gw_m (lt_5 21 rfl) rfl
theorem kw_1101 : Cond.static ({ cls := "java/lang/StringUTF16", name := "checkIndex", desc := "(I[B)V" } : MethodName) ∈ gw := gw_m (lt_5 22 rfl) rfl
theorem kw_1102 : Cond.code ({ cls := "java/lang/StringUTF16", name := "checkIndex", desc := "(I[B)V" } : MethodName) prog_22_method_91_code 2 (Option.none : Option FieldType) ∈ gw := gw_m (lt_5 23 rfl) rfl
theorem kw_1103 : Cond.methodLink "java/lang/StringUTF16" 414 ({ cls := "java/lang/String", name := "checkIndex", desc := "(II)V" } : MethodName) ∈ gw := gw_m (lt_5 24 rfl) rfl
theorem kw_1104 : Cond.methodLink "TimberValley$Tape" 63 ({ cls := "TimberValley$Tape", name := "isPart", desc := "(Ljava/lang/String;II)Z" } : MethodName) ∈ gw := gw_m (lt_5 25 rfl) rfl
theorem kw_1106 : Cond.instanceMethod ({ cls := "TimberValley$Tape", name := "isPart", desc := "(Ljava/lang/String;II)Z" } : MethodName) ∈ gw := gw_m (lt_5 27 rfl) rfl
theorem kw_1107 : Cond.code ({ cls := "TimberValley$Tape", name := "isPart", desc := "(Ljava/lang/String;II)Z" } : MethodName) prog_11_method_13_code 5 (Option.some FieldType.boolean) ∈ gw := gw_m (lt_5 28 rfl) rfl
theorem kw_1108 : Cond.methodLink "TimberValley$Statutes" 76 ({ cls := "TimberValley$Statutes", name := "refuse", desc := "(LTimberValley$Tape;I)I" } : MethodName) ∈ gw := gw_m (lt_5 29 rfl) rfl
theorem kw_1110 : Cond.instanceMethod ({ cls := "TimberValley$Statutes", name := "refuse", desc := "(LTimberValley$Tape;I)I" } : MethodName) ∈ gw := gw_m (lt_5 31 rfl) rfl
theorem kw_1111 : Cond.code ({ cls := "TimberValley$Statutes", name := "refuse", desc := "(LTimberValley$Tape;I)I" } : MethodName) prog_10_method_14_code 3 (Option.some FieldType.int) ∈ gw := gw_m (lt_5 32 rfl) rfl
theorem kw_1112 : Cond.methodLink "TimberValley$Statutes" 121 ({ cls := "TimberValley$Statutes", name := "statementAtHand", desc := "()I" } : MethodName) ∈ gw := gw_m (lt_5 33 rfl) rfl
theorem kw_1114 : Cond.instanceMethod ({ cls := "TimberValley$Statutes", name := "statementAtHand", desc := "()I" } : MethodName) ∈ gw := gw_m (lt_5 35 rfl) rfl
theorem kw_1115 : Cond.code ({ cls := "TimberValley$Statutes", name := "statementAtHand", desc := "()I" } : MethodName) prog_10_method_12_code 1 (Option.some FieldType.int) ∈ gw := gw_m (lt_5 36 rfl) rfl
theorem kw_1117 : Cond.methodLink "TimberValley$Statutes" 89 ({ cls := "TimberValley$Statutes", name := "takeObject", desc := "(LTimberValley$Tape;I)I" } : MethodName) ∈ gw := gw_m (lt_5 38 rfl) rfl
theorem kw_1119 : Cond.instanceMethod ({ cls := "TimberValley$Statutes", name := "takeObject", desc := "(LTimberValley$Tape;I)I" } : MethodName) ∈ gw := gw_m (lt_5 40 rfl) rfl
theorem kw_1120 : Cond.code ({ cls := "TimberValley$Statutes", name := "takeObject", desc := "(LTimberValley$Tape;I)I" } : MethodName) prog_10_method_6_code 3 (Option.some FieldType.int) ∈ gw := gw_m (lt_5 41 rfl) rfl
theorem kw_1121 : Cond.methodLink "TimberValley$Statutes" 92 ({ cls := "TimberValley$Tape", name := "number", desc := "()I" } : MethodName) ∈ gw := gw_m (lt_5 42 rfl) rfl
theorem kw_1122 : Cond.instanceMethod ({ cls := "TimberValley$Tape", name := "number", desc := "()I" } : MethodName) ∈ gw := gw_m (lt_5 43 rfl) rfl
theorem kw_1123 : Cond.selects "TimberValley$Tape" ({ cls := "TimberValley$Tape", name := "number", desc := "()I" } : MethodName) ({ cls := "TimberValley$Tape", name := "number", desc := "()I" } : MethodName) ∈ gw := gw_m (lt_5 44 rfl) rfl
theorem kw_1124 : Cond.code ({ cls := "TimberValley$Tape", name := "number", desc := "()I" } : MethodName) prog_11_method_15_code 3 (Option.some FieldType.int) ∈ gw := gw_m (lt_5 45 rfl) rfl
theorem kw_1126 : Cond.methodLink "TimberValley$Statutes" 98 ({ cls := "TimberValley$Tape", name := "isWord", desc := "(Ljava/lang/String;)Z" } : MethodName) ∈ gw := gw_m (lt_5 47 rfl) rfl
theorem kw_1127 : Cond.instanceMethod ({ cls := "TimberValley$Tape", name := "isWord", desc := "(Ljava/lang/String;)Z" } : MethodName) ∈ gw := gw_m (lt_5 48 rfl) rfl
theorem kw_1128 : Cond.selects "TimberValley$Tape" ({ cls := "TimberValley$Tape", name := "isWord", desc := "(Ljava/lang/String;)Z" } : MethodName) ({ cls := "TimberValley$Tape", name := "isWord", desc := "(Ljava/lang/String;)Z" } : MethodName) ∈ gw := gw_m (lt_5 49 rfl) rfl
theorem kw_1129 : Cond.code ({ cls := "TimberValley$Tape", name := "isWord", desc := "(Ljava/lang/String;)Z" } : MethodName) prog_11_method_11_code 2 (Option.some FieldType.boolean) ∈ gw := gw_m (lt_5 50 rfl) rfl
theorem kw_1130 : Cond.methodLink "TimberValley$Statutes" 102 ({ cls := "TimberValley$Statutes", name := "takeTerm", desc := "(LTimberValley$Tape;)I" } : MethodName) ∈ gw := gw_m (lt_5 51 rfl) rfl
theorem kw_1132 : Cond.instanceMethod ({ cls := "TimberValley$Statutes", name := "takeTerm", desc := "(LTimberValley$Tape;)I" } : MethodName) ∈ gw := gw_m (lt_5 53 rfl) rfl
theorem kw_1133 : Cond.code ({ cls := "TimberValley$Statutes", name := "takeTerm", desc := "(LTimberValley$Tape;)I" } : MethodName) prog_10_method_7_code 4 (Option.some FieldType.int) ∈ gw := gw_m (lt_5 54 rfl) rfl
theorem kw_1136 : Cond.methodLink "TimberValley$Statutes" 126 ({ cls := "TimberValley$Statutes", name := "termAtHand", desc := "()I" } : MethodName) ∈ gw := gw_m (lt_5 57 rfl) rfl
theorem kw_1138 : Cond.instanceMethod ({ cls := "TimberValley$Statutes", name := "termAtHand", desc := "()I" } : MethodName) ∈ gw := gw_m (lt_5 59 rfl) rfl
theorem kw_1139 : Cond.code ({ cls := "TimberValley$Statutes", name := "termAtHand", desc := "()I" } : MethodName) prog_10_method_13_code 1 (Option.some FieldType.int) ∈ gw := gw_m (lt_5 60 rfl) rfl
theorem kw_1140 : Cond.methodLink "TimberValley$Statutes" 107 ({ cls := "TimberValley$Statutes", name := "takeWord", desc := "(LTimberValley$Tape;I)I" } : MethodName) ∈ gw := gw_m (lt_5 61 rfl) rfl
theorem kw_1142 : Cond.instanceMethod ({ cls := "TimberValley$Statutes", name := "takeWord", desc := "(LTimberValley$Tape;I)I" } : MethodName) ∈ gw := gw_m (lt_5 63 rfl) rfl
theorem kw_1143 : Cond.code ({ cls := "TimberValley$Statutes", name := "takeWord", desc := "(LTimberValley$Tape;I)I" } : MethodName) prog_10_method_8_code 3 (Option.some FieldType.int) ∈ gw := gw_m (lt_5 64 rfl) rfl
theorem kw_1144 : Cond.methodLink "TimberValley$Statutes" 110 ({ cls := "TimberValley$Statutes", name := "takeRelation", desc := "(LTimberValley$Tape;)I" } : MethodName) ∈ gw := gw_m (lt_5 65 rfl) rfl
theorem kw_1146 : Cond.instanceMethod ({ cls := "TimberValley$Statutes", name := "takeRelation", desc := "(LTimberValley$Tape;)I" } : MethodName) ∈ gw := gw_m (lt_5 67 rfl) rfl
theorem kw_1147 : Cond.code ({ cls := "TimberValley$Statutes", name := "takeRelation", desc := "(LTimberValley$Tape;)I" } : MethodName) prog_10_method_9_code 3 (Option.some FieldType.int) ∈ gw := gw_m (lt_5 68 rfl) rfl
theorem kw_1148 : Cond.methodLink "TimberValley$Statutes" 129 ({ cls := "TimberValley$Tape", name := "sign", desc := "()I" } : MethodName) ∈ gw := gw_m (lt_5 69 rfl) rfl
theorem kw_1149 : Cond.instanceMethod ({ cls := "TimberValley$Tape", name := "sign", desc := "()I" } : MethodName) ∈ gw := gw_m (lt_5 70 rfl) rfl
theorem kw_1150 : Cond.selects "TimberValley$Tape" ({ cls := "TimberValley$Tape", name := "sign", desc := "()I" } : MethodName) ({ cls := "TimberValley$Tape", name := "sign", desc := "()I" } : MethodName) ∈ gw := gw_m (lt_5 71 rfl) rfl
theorem kw_1151 : Cond.code ({ cls := "TimberValley$Tape", name := "sign", desc := "()I" } : MethodName) prog_11_method_14_code 1 (Option.some FieldType.int) ∈ gw := gw_m (lt_5 72 rfl) rfl
theorem kw_1152 : Cond.methodLink "TimberValley$Statutes" 113 ({ cls := "TimberValley$Statutes", name := "takeValue", desc := "(LTimberValley$Tape;)I" } : MethodName) ∈ gw := gw_m (lt_5 73 rfl) rfl
theorem kw_1154 : Cond.instanceMethod ({ cls := "TimberValley$Statutes", name := "takeValue", desc := "(LTimberValley$Tape;)I" } : MethodName) ∈ gw := gw_m (lt_5 75 rfl) rfl
theorem kw_1155 : Cond.code ({ cls := "TimberValley$Statutes", name := "takeValue", desc := "(LTimberValley$Tape;)I" } : MethodName) prog_10_method_10_code 3 (Option.some FieldType.int) ∈ gw := gw_m (lt_5 76 rfl) rfl
theorem kw_1156 : Cond.methodLink "TimberValley$Statutes" 116 ({ cls := "TimberValley$Statutes", name := "takeJoint", desc := "(LTimberValley$Tape;)I" } : MethodName) ∈ gw := gw_m (lt_5 77 rfl) rfl
theorem kw_1158 : Cond.instanceMethod ({ cls := "TimberValley$Statutes", name := "takeJoint", desc := "(LTimberValley$Tape;)I" } : MethodName) ∈ gw := gw_m (lt_5 79 rfl) rfl
theorem kw_1159 : Cond.code ({ cls := "TimberValley$Statutes", name := "takeJoint", desc := "(LTimberValley$Tape;)I" } : MethodName) prog_10_method_11_code 2 (Option.some FieldType.int) ∈ gw := gw_m (lt_5 80 rfl) rfl
theorem kw_1161 : Cond.methodLink "TimberValley$Statutes" 73 ({ cls := "TimberValley$Tape", name := "next", desc := "()V" } : MethodName) ∈ gw := gw_m (lt_5 82 rfl) rfl
theorem kw_1162 : Cond.arrayClass FieldType.byte ∈ gw := gw_m (lt_5 83 rfl) rfl
theorem kw_1163 : Cond.methodLink "TimberValleyLaw" 114 ({ cls := "TimberValley", name := "place", desc := "()I" } : MethodName) ∈ gw := gw_m (lt_5 84 rfl) rfl
theorem kw_1164 : Cond.instanceMethod ({ cls := "TimberValley", name := "place", desc := "()I" } : MethodName) ∈ gw := gw_m (lt_5 85 rfl) rfl
theorem kw_1165 : Cond.selects "TimberValley" ({ cls := "TimberValley", name := "place", desc := "()I" } : MethodName) ({ cls := "TimberValley", name := "place", desc := "()I" } : MethodName) ∈ gw := gw_m (lt_5 86 rfl) rfl
theorem kw_1166 : Cond.code ({ cls := "TimberValley", name := "place", desc := "()I" } : MethodName) prog_1_method_31_code 1 (Option.some FieldType.int) ∈ gw := gw_m (lt_5 87 rfl) rfl
theorem kw_1167 : Cond.methodLink "TimberValleyLaw" 118 ({ cls := "TimberValley", name := "why", desc := "(IIII)I" } : MethodName) ∈ gw := gw_m (lt_5 88 rfl) rfl
theorem kw_1168 : Cond.instanceMethod ({ cls := "TimberValley", name := "why", desc := "(IIII)I" } : MethodName) ∈ gw := gw_m (lt_5 89 rfl) rfl
theorem kw_1169 : Cond.selects "TimberValley" ({ cls := "TimberValley", name := "why", desc := "(IIII)I" } : MethodName) ({ cls := "TimberValley", name := "why", desc := "(IIII)I" } : MethodName) ∈ gw := gw_m (lt_5 90 rfl) rfl
theorem kw_1170 : Cond.code ({ cls := "TimberValley", name := "why", desc := "(IIII)I" } : MethodName) prog_1_method_32_code 5 (Option.some FieldType.int) ∈ gw := gw_m (lt_5 91 rfl) rfl
theorem kw_1171 : Cond.methodLink "TimberValleyLaw" 123 ({ cls := "TimberValley", name := "whyWay", desc := "(I)I" } : MethodName) ∈ gw := gw_m (lt_5 92 rfl) rfl
theorem kw_1172 : Cond.instanceMethod ({ cls := "TimberValley", name := "whyWay", desc := "(I)I" } : MethodName) ∈ gw := gw_m (lt_5 93 rfl) rfl
theorem kw_1173 : Cond.selects "TimberValley" ({ cls := "TimberValley", name := "whyWay", desc := "(I)I" } : MethodName) ({ cls := "TimberValley", name := "whyWay", desc := "(I)I" } : MethodName) ∈ gw := gw_m (lt_5 94 rfl) rfl
theorem kw_1174 : Cond.code ({ cls := "TimberValley", name := "whyWay", desc := "(I)I" } : MethodName) prog_1_method_33_code 3 (Option.some FieldType.int) ∈ gw := gw_m (lt_5 95 rfl) rfl
theorem kw_1175 : Cond.methodLink "TimberValleyLaw" 127 ({ cls := "TimberValley", name := "due", desc := "(II)I" } : MethodName) ∈ gw := gw_m (lt_5 96 rfl) rfl
theorem kw_1176 : Cond.instanceMethod ({ cls := "TimberValley", name := "due", desc := "(II)I" } : MethodName) ∈ gw := gw_m (lt_5 97 rfl) rfl
theorem kw_1177 : Cond.selects "TimberValley" ({ cls := "TimberValley", name := "due", desc := "(II)I" } : MethodName) ({ cls := "TimberValley", name := "due", desc := "(II)I" } : MethodName) ∈ gw := gw_m (lt_5 98 rfl) rfl
theorem kw_1178 : Cond.code ({ cls := "TimberValley", name := "due", desc := "(II)I" } : MethodName) prog_1_method_34_code 3 (Option.some FieldType.int) ∈ gw := gw_m (lt_5 99 rfl) rfl
theorem kw_1179 : Cond.methodLink "TimberValleyLaw" 131 ({ cls := "TimberValley", name := "crew", desc := "(I)I" } : MethodName) ∈ gw := gw_m (lt_5 100 rfl) rfl
theorem kw_1180 : Cond.instanceMethod ({ cls := "TimberValley", name := "crew", desc := "(I)I" } : MethodName) ∈ gw := gw_m (lt_5 101 rfl) rfl
theorem kw_1181 : Cond.selects "TimberValley" ({ cls := "TimberValley", name := "crew", desc := "(I)I" } : MethodName) ({ cls := "TimberValley", name := "crew", desc := "(I)I" } : MethodName) ∈ gw := gw_m (lt_5 102 rfl) rfl
theorem kw_1182 : Cond.code ({ cls := "TimberValley", name := "crew", desc := "(I)I" } : MethodName) prog_1_method_38_code 2 (Option.some FieldType.int) ∈ gw := gw_m (lt_5 103 rfl) rfl
theorem kw_1183 : Cond.instantiable "TimberValley$Crew" 5 ∈ gw := gw_m (lt_5 104 rfl) rfl
theorem kw_1184 : Cond.methodLink "TimberValley" 355 ({ cls := "TimberValley$Crew", name := "<init>", desc := "(I)V" } : MethodName) ∈ gw := gw_m (lt_5 105 rfl) rfl
theorem kw_1185 : Cond.instanceMethod ({ cls := "TimberValley$Crew", name := "<init>", desc := "(I)V" } : MethodName) ∈ gw := gw_m (lt_5 106 rfl) rfl
theorem kw_1186 : Cond.code ({ cls := "TimberValley$Crew", name := "<init>", desc := "(I)V" } : MethodName) prog_3_method_1_code 2 (Option.none : Option FieldType) ∈ gw := gw_m (lt_5 107 rfl) rfl
theorem kw_1187 : Cond.methodLink "TimberValley$Crew" 3 ({ cls := "java/lang/Object", name := "<init>", desc := "()V" } : MethodName) ∈ gw := gw_m (lt_5 108 rfl) rfl
theorem kw_1188 : Cond.fieldLink "TimberValley$Crew" 25 "TimberValley$Crew" "brand" "I" ∈ gw := gw_m (lt_5 109 rfl) rfl
theorem kw_1189 : Cond.fieldLinkNest "TimberValley" 208 "TimberValley$Crew" "brand" "I" "TimberValley" ∈ lw_tbl := lt_5 110 rfl
theorem kw_1190 : Cond.fieldLink "TimberValley$Crew" 9 "TimberValley$Crew" "earned" "I" ∈ gw := gw_m (lt_5 111 rfl) rfl
theorem kw_1191 : Cond.fieldLinkNest "TimberValley" 205 "TimberValley$Crew" "earned" "I" "TimberValley" ∈ lw_tbl := lt_5 112 rfl
theorem kw_1192 : Cond.fieldLink "TimberValley$Crew" 15 "TimberValley$Crew" "owes" "I" ∈ gw := gw_m (lt_5 113 rfl) rfl
theorem kw_1193 : Cond.fieldLinkNest "TimberValley" 357 "TimberValley$Crew" "owes" "I" "TimberValley" ∈ lw_tbl := lt_5 114 rfl
theorem kw_1194 : Cond.fieldLink "TimberValley$Crew" 18 "TimberValley$Crew" "paid" "I" ∈ gw := gw_m (lt_5 115 rfl) rfl
theorem kw_1195 : Cond.fieldLinkNest "TimberValley" 505 "TimberValley$Crew" "paid" "I" "TimberValley" ∈ lw_tbl := lt_5 116 rfl
theorem kw_1196 : Cond.fieldLink "TimberValley$Crew" 21 "TimberValley$Crew" "left" "Z" ∈ gw := gw_m (lt_5 117 rfl) rfl
theorem kw_1197 : Cond.fieldLinkNest "TimberValley" 188 "TimberValley$Crew" "left" "Z" "TimberValley" ∈ lw_tbl := lt_5 118 rfl
theorem kw_1198 : Cond.laysFinal "TimberValley$Crew" "TimberValley$Crew" "brand" "I" ∈ gw := gw_m (lt_5 119 rfl) rfl
theorem kw_1200 : Cond.lays "TimberValley$Crew" "TimberValley$Crew" "earned" "I" ∈ gw := gw_m (lt_5 121 rfl) rfl
theorem kw_1202 : Cond.lays "TimberValley$Crew" "TimberValley$Crew" "owes" "I" ∈ gw := gw_m (lt_5 123 rfl) rfl
theorem kw_1204 : Cond.lays "TimberValley$Crew" "TimberValley$Crew" "paid" "I" ∈ gw := gw_m (lt_5 125 rfl) rfl
theorem kw_1206 : Cond.lays "TimberValley$Crew" "TimberValley$Crew" "left" "Z" ∈ gw := gw_m (lt_5 127 rfl) rfl
theorem kw_1209 : Cond.methodLink "TimberValleyLaw" 135 ({ cls := "TimberValley", name := "shop", desc := "(II)I" } : MethodName) ∈ gw := gw_m (lt_5 130 rfl) rfl
theorem kw_1210 : Cond.instanceMethod ({ cls := "TimberValley", name := "shop", desc := "(II)I" } : MethodName) ∈ gw := gw_m (lt_5 131 rfl) rfl
theorem kw_1211 : Cond.selects "TimberValley" ({ cls := "TimberValley", name := "shop", desc := "(II)I" } : MethodName) ({ cls := "TimberValley", name := "shop", desc := "(II)I" } : MethodName) ∈ gw := gw_m (lt_5 132 rfl) rfl
theorem kw_1212 : Cond.code ({ cls := "TimberValley", name := "shop", desc := "(II)I" } : MethodName) prog_1_method_39_code 4 (Option.some FieldType.int) ∈ gw := gw_m (lt_5 133 rfl) rfl
theorem kw_1213 : Cond.methodLink "TimberValleyLaw" 139 ({ cls := "TimberValley", name := "leave", desc := "(I)I" } : MethodName) ∈ gw := gw_m (lt_5 134 rfl) rfl
theorem kw_1214 : Cond.instanceMethod ({ cls := "TimberValley", name := "leave", desc := "(I)I" } : MethodName) ∈ gw := gw_m (lt_5 135 rfl) rfl
theorem kw_1215 : Cond.selects "TimberValley" ({ cls := "TimberValley", name := "leave", desc := "(I)I" } : MethodName) ({ cls := "TimberValley", name := "leave", desc := "(I)I" } : MethodName) ∈ gw := gw_m (lt_5 136 rfl) rfl
theorem kw_1216 : Cond.code ({ cls := "TimberValley", name := "leave", desc := "(I)I" } : MethodName) prog_1_method_40_code 3 (Option.some FieldType.int) ∈ gw := gw_m (lt_5 137 rfl) rfl
theorem kw_1217 : Cond.constant "TimberValley" 360 (-1000000 : Int32) ∈ gw := gw_m (lt_5 138 rfl) rfl
theorem kw_1218 : Cond.methodLink "TimberValley" 361 ({ cls := "TimberValley$Crew", name := "settleForGood", desc := "()I" } : MethodName) ∈ gw := gw_m (lt_5 139 rfl) rfl
theorem kw_1219 : Cond.instanceMethod ({ cls := "TimberValley$Crew", name := "settleForGood", desc := "()I" } : MethodName) ∈ gw := gw_m (lt_5 140 rfl) rfl
theorem kw_1220 : Cond.selects "TimberValley$Crew" ({ cls := "TimberValley$Crew", name := "settleForGood", desc := "()I" } : MethodName) ({ cls := "TimberValley$Crew", name := "settleForGood", desc := "()I" } : MethodName) ∈ gw := gw_m (lt_5 141 rfl) rfl
theorem kw_1221 : Cond.code ({ cls := "TimberValley$Crew", name := "settleForGood", desc := "()I" } : MethodName) prog_3_method_3_code 2 (Option.some FieldType.int) ∈ gw := gw_m (lt_5 142 rfl) rfl
theorem kw_1222 : Cond.methodLink "TimberValley$Crew" 34 ({ cls := "java/lang/Math", name := "max", desc := "(II)I" } : MethodName) ∈ gw := gw_m (lt_5 143 rfl) rfl
theorem kw_1223 : Cond.methodLink "TimberValleyLaw" 249 ({ cls := "TimberValley", name := "crewOf", desc := "(II)I" } : MethodName) ∈ gw := gw_m (lt_5 144 rfl) rfl
theorem kw_1224 : Cond.instanceMethod ({ cls := "TimberValley", name := "crewOf", desc := "(II)I" } : MethodName) ∈ gw := gw_m (lt_5 145 rfl) rfl
theorem kw_1225 : Cond.selects "TimberValley" ({ cls := "TimberValley", name := "crewOf", desc := "(II)I" } : MethodName) ({ cls := "TimberValley", name := "crewOf", desc := "(II)I" } : MethodName) ∈ gw := gw_m (lt_5 146 rfl) rfl
theorem kw_1226 : Cond.code ({ cls := "TimberValley", name := "crewOf", desc := "(II)I" } : MethodName) prog_1_method_41_code 4 (Option.some FieldType.int) ∈ gw := gw_m (lt_5 147 rfl) rfl
theorem kw_1227 : Cond.methodLink "TimberValley" 364 ({ cls := "TimberValley$Crew", name := "told", desc := "(I)I" } : MethodName) ∈ gw := gw_m (lt_5 148 rfl) rfl
theorem kw_1228 : Cond.instanceMethod ({ cls := "TimberValley$Crew", name := "told", desc := "(I)I" } : MethodName) ∈ gw := gw_m (lt_5 149 rfl) rfl
theorem kw_1229 : Cond.selects "TimberValley$Crew" ({ cls := "TimberValley$Crew", name := "told", desc := "(I)I" } : MethodName) ({ cls := "TimberValley$Crew", name := "told", desc := "(I)I" } : MethodName) ∈ gw := gw_m (lt_5 150 rfl) rfl
theorem kw_1230 : Cond.code ({ cls := "TimberValley$Crew", name := "told", desc := "(I)I" } : MethodName) prog_3_method_4_code 2 (Option.some FieldType.int) ∈ gw := gw_m (lt_5 151 rfl) rfl
theorem kw_1231 : Cond.methodLink "TimberValleyLaw" 143 ({ cls := "TimberValley", name := "lease", desc := "(I)Z" } : MethodName) ∈ gw := gw_m (lt_5 152 rfl) rfl
theorem kw_1232 : Cond.instanceMethod ({ cls := "TimberValley", name := "lease", desc := "(I)Z" } : MethodName) ∈ gw := gw_m (lt_5 153 rfl) rfl
theorem kw_1233 : Cond.selects "TimberValley" ({ cls := "TimberValley", name := "lease", desc := "(I)Z" } : MethodName) ({ cls := "TimberValley", name := "lease", desc := "(I)Z" } : MethodName) ∈ gw := gw_m (lt_5 154 rfl) rfl
theorem kw_1234 : Cond.code ({ cls := "TimberValley", name := "lease", desc := "(I)Z" } : MethodName) prog_1_method_43_code 2 (Option.some FieldType.boolean) ∈ gw := gw_m (lt_5 155 rfl) rfl
theorem kw_1235 : Cond.methodLink "TimberValleyLaw" 147 ({ cls := "TimberValley", name := "scale", desc := "(II)I" } : MethodName) ∈ gw := gw_m (lt_5 156 rfl) rfl
theorem kw_1236 : Cond.instanceMethod ({ cls := "TimberValley", name := "scale", desc := "(II)I" } : MethodName) ∈ gw := gw_m (lt_5 157 rfl) rfl
theorem kw_1237 : Cond.selects "TimberValley" ({ cls := "TimberValley", name := "scale", desc := "(II)I" } : MethodName) ({ cls := "TimberValley", name := "scale", desc := "(II)I" } : MethodName) ∈ gw := gw_m (lt_5 158 rfl) rfl
theorem kw_1238 : Cond.code ({ cls := "TimberValley", name := "scale", desc := "(II)I" } : MethodName) prog_1_method_44_code 4 (Option.some FieldType.int) ∈ gw := gw_m (lt_5 159 rfl) rfl
theorem kw_1239 : Cond.methodLink "TimberValleyLaw" 151 ({ cls := "TimberValley", name := "found", desc := "(III)Z" } : MethodName) ∈ gw := gw_m (lt_5 160 rfl) rfl
theorem kw_1240 : Cond.instanceMethod ({ cls := "TimberValley", name := "found", desc := "(III)Z" } : MethodName) ∈ gw := gw_m (lt_5 161 rfl) rfl
theorem kw_1241 : Cond.selects "TimberValley" ({ cls := "TimberValley", name := "found", desc := "(III)Z" } : MethodName) ({ cls := "TimberValley", name := "found", desc := "(III)Z" } : MethodName) ∈ gw := gw_m (lt_5 162 rfl) rfl
theorem kw_1242 : Cond.code ({ cls := "TimberValley", name := "found", desc := "(III)Z" } : MethodName) prog_1_method_45_code 4 (Option.some FieldType.boolean) ∈ gw := gw_m (lt_5 163 rfl) rfl
theorem kw_1243 : Cond.methodLink "TimberValleyLaw" 164 ({ cls := "TimberValley", name := "order", desc := "(IIIII)I" } : MethodName) ∈ gw := gw_m (lt_5 164 rfl) rfl
theorem kw_1244 : Cond.instanceMethod ({ cls := "TimberValley", name := "order", desc := "(IIIII)I" } : MethodName) ∈ gw := gw_m (lt_5 165 rfl) rfl
theorem kw_1245 : Cond.selects "TimberValley" ({ cls := "TimberValley", name := "order", desc := "(IIIII)I" } : MethodName) ({ cls := "TimberValley", name := "order", desc := "(IIIII)I" } : MethodName) ∈ gw := gw_m (lt_5 166 rfl) rfl
theorem kw_1246 : Cond.code ({ cls := "TimberValley", name := "order", desc := "(IIIII)I" } : MethodName) prog_1_method_48_code 6 (Option.some FieldType.int) ∈ gw := gw_m (lt_5 167 rfl) rfl
theorem kw_1247 : Cond.methodLink "TimberValley" 385 ({ cls := "TimberValley$SawMill", name := "add", desc := "(IIIII)I" } : MethodName) ∈ gw := gw_m (lt_5 168 rfl) rfl
theorem kw_1248 : Cond.instanceMethod ({ cls := "TimberValley$SawMill", name := "add", desc := "(IIIII)I" } : MethodName) ∈ gw := gw_m (lt_5 169 rfl) rfl
theorem kw_1249 : Cond.selects "TimberValley$SawMill" ({ cls := "TimberValley$SawMill", name := "add", desc := "(IIIII)I" } : MethodName) ({ cls := "TimberValley$SawMill", name := "add", desc := "(IIIII)I" } : MethodName) ∈ gw := gw_m (lt_5 170 rfl) rfl
theorem kw_1250 : Cond.code ({ cls := "TimberValley$SawMill", name := "add", desc := "(IIIII)I" } : MethodName) prog_8_method_2_code 6 (Option.some FieldType.int) ∈ gw := gw_m (lt_5 171 rfl) rfl
theorem kw_1251 : Cond.methodLink "TimberValleyLaw" 168 ({ cls := "TimberValley", name := "best", desc := "(I)I" } : MethodName) ∈ gw := gw_m (lt_5 172 rfl) rfl
theorem kw_1252 : Cond.instanceMethod ({ cls := "TimberValley", name := "best", desc := "(I)I" } : MethodName) ∈ gw := gw_m (lt_5 173 rfl) rfl
theorem kw_1253 : Cond.selects "TimberValley" ({ cls := "TimberValley", name := "best", desc := "(I)I" } : MethodName) ({ cls := "TimberValley", name := "best", desc := "(I)I" } : MethodName) ∈ gw := gw_m (lt_5 174 rfl) rfl
theorem kw_1254 : Cond.code ({ cls := "TimberValley", name := "best", desc := "(I)I" } : MethodName) prog_1_method_49_code 3 (Option.some FieldType.int) ∈ gw := gw_m (lt_5 175 rfl) rfl
theorem kw_1255 : Cond.methodLink "TimberValley" 389 ({ cls := "TimberValley", name := "pondLogAt", desc := "(I)LTimberValley$Log;" } : MethodName) ∈ gw := gw_m (lt_5 176 rfl) rfl
theorem kw_1257 : Cond.instanceMethod ({ cls := "TimberValley", name := "pondLogAt", desc := "(I)LTimberValley$Log;" } : MethodName) ∈ gw := gw_m (lt_5 178 rfl) rfl
theorem kw_1258 : Cond.code ({ cls := "TimberValley", name := "pondLogAt", desc := "(I)LTimberValley$Log;" } : MethodName) prog_1_method_77_code 3 (Option.some (FieldType.object "TimberValley$Log")) ∈ gw := gw_m (lt_5 179 rfl) rfl
theorem kw_1259 : Cond.methodLink "TimberValley" 392 ({ cls := "TimberValley$SawMill", name := "plan", desc := "(LTimberValley$Log;I)V" } : MethodName) ∈ gw := gw_m (lt_5 180 rfl) rfl
theorem kw_1260 : Cond.instanceMethod ({ cls := "TimberValley$SawMill", name := "plan", desc := "(LTimberValley$Log;I)V" } : MethodName) ∈ gw := gw_m (lt_5 181 rfl) rfl
theorem kw_1261 : Cond.selects "TimberValley$SawMill" ({ cls := "TimberValley$SawMill", name := "plan", desc := "(LTimberValley$Log;I)V" } : MethodName) ({ cls := "TimberValley$SawMill", name := "plan", desc := "(LTimberValley$Log;I)V" } : MethodName) ∈ gw := gw_m (lt_5 182 rfl) rfl
theorem kw_1262 : Cond.code ({ cls := "TimberValley$SawMill", name := "plan", desc := "(LTimberValley$Log;I)V" } : MethodName) prog_8_method_3_code 6 (Option.none : Option FieldType) ∈ gw := gw_m (lt_5 183 rfl) rfl
theorem kw_1263 : Cond.methodLink "TimberValley$SawMill" 51 ({ cls := "java/lang/Math", name := "min", desc := "(II)I" } : MethodName) ∈ gw := gw_m (lt_5 184 rfl) rfl
theorem kw_1264 : Cond.methodLink "TimberValley$SawMill" 57 ({ cls := "TimberValley$SawMill", name := "weigh", desc := "(LTimberValley$Log;III)V" } : MethodName) ∈ gw := gw_m (lt_5 185 rfl) rfl
theorem kw_1266 : Cond.instanceMethod ({ cls := "TimberValley$SawMill", name := "weigh", desc := "(LTimberValley$Log;III)V" } : MethodName) ∈ gw := gw_m (lt_5 187 rfl) rfl
theorem kw_1267 : Cond.code ({ cls := "TimberValley$SawMill", name := "weigh", desc := "(LTimberValley$Log;III)V" } : MethodName) prog_8_method_4_code 7 (Option.none : Option FieldType) ∈ gw := gw_m (lt_5 188 rfl) rfl
theorem kw_1268 : Cond.methodLink "TimberValley$SawMill" 67 ({ cls := "TimberValley$SawMill", name := "isOpen", desc := "(III)Z" } : MethodName) ∈ gw := gw_m (lt_5 189 rfl) rfl
theorem kw_1270 : Cond.instanceMethod ({ cls := "TimberValley$SawMill", name := "isOpen", desc := "(III)Z" } : MethodName) ∈ gw := gw_m (lt_5 191 rfl) rfl
theorem kw_1271 : Cond.code ({ cls := "TimberValley$SawMill", name := "isOpen", desc := "(III)Z" } : MethodName) prog_8_method_5_code 4 (Option.some FieldType.boolean) ∈ gw := gw_m (lt_5 192 rfl) rfl
theorem kw_1272 : Cond.methodLink "TimberValley$SawMill" 74 ({ cls := "TimberValley$SawMill", name := "fits", desc := "(IIII)Z" } : MethodName) ∈ gw := gw_m (lt_5 193 rfl) rfl
theorem kw_1274 : Cond.instanceMethod ({ cls := "TimberValley$SawMill", name := "fits", desc := "(IIII)Z" } : MethodName) ∈ gw := gw_m (lt_5 195 rfl) rfl
theorem kw_1275 : Cond.code ({ cls := "TimberValley$SawMill", name := "fits", desc := "(IIII)Z" } : MethodName) prog_8_method_6_code 6 (Option.some FieldType.boolean) ∈ gw := gw_m (lt_5 196 rfl) rfl
theorem kw_1276 : Cond.methodLink "TimberValley$SawMill" 61 ({ cls := "TimberValley$SawMill", name := "behind", desc := "(III)I" } : MethodName) ∈ gw := gw_m (lt_5 197 rfl) rfl
theorem kw_1278 : Cond.instanceMethod ({ cls := "TimberValley$SawMill", name := "behind", desc := "(III)I" } : MethodName) ∈ gw := gw_m (lt_5 199 rfl) rfl
theorem kw_1279 : Cond.code ({ cls := "TimberValley$SawMill", name := "behind", desc := "(III)I" } : MethodName) prog_8_method_7_code 4 (Option.some FieldType.int) ∈ gw := gw_m (lt_5 200 rfl) rfl
theorem kw_1280 : Cond.methodLink "TimberValleyLaw" 172 ({ cls := "TimberValley", name := "board", desc := "(II)I" } : MethodName) ∈ gw := gw_m (lt_5 201 rfl) rfl
theorem kw_1281 : Cond.instanceMethod ({ cls := "TimberValley", name := "board", desc := "(II)I" } : MethodName) ∈ gw := gw_m (lt_5 202 rfl) rfl
theorem kw_1282 : Cond.selects "TimberValley" ({ cls := "TimberValley", name := "board", desc := "(II)I" } : MethodName) ({ cls := "TimberValley", name := "board", desc := "(II)I" } : MethodName) ∈ gw := gw_m (lt_5 203 rfl) rfl
theorem kw_1283 : Cond.code ({ cls := "TimberValley", name := "board", desc := "(II)I" } : MethodName) prog_1_method_50_code 4 (Option.some FieldType.int) ∈ gw := gw_m (lt_5 204 rfl) rfl
theorem kw_1284 : Cond.methodLink "TimberValleyLaw" 176 ({ cls := "TimberValley", name := "saw", desc := "(I)I" } : MethodName) ∈ gw := gw_m (lt_5 205 rfl) rfl
theorem kw_1285 : Cond.instanceMethod ({ cls := "TimberValley", name := "saw", desc := "(I)I" } : MethodName) ∈ gw := gw_m (lt_5 206 rfl) rfl
theorem kw_1286 : Cond.selects "TimberValley" ({ cls := "TimberValley", name := "saw", desc := "(I)I" } : MethodName) ({ cls := "TimberValley", name := "saw", desc := "(I)I" } : MethodName) ∈ gw := gw_m (lt_5 207 rfl) rfl
theorem kw_1287 : Cond.code ({ cls := "TimberValley", name := "saw", desc := "(I)I" } : MethodName) prog_1_method_51_code 4 (Option.some FieldType.int) ∈ gw := gw_m (lt_5 208 rfl) rfl
theorem kw_1288 : Cond.methodLink "TimberValley" 401 ({ cls := "TimberValley$SawMill", name := "deliver", desc := "(II)I" } : MethodName) ∈ gw := gw_m (lt_5 209 rfl) rfl
theorem kw_1289 : Cond.instanceMethod ({ cls := "TimberValley$SawMill", name := "deliver", desc := "(II)I" } : MethodName) ∈ gw := gw_m (lt_5 210 rfl) rfl
theorem kw_1290 : Cond.selects "TimberValley$SawMill" ({ cls := "TimberValley$SawMill", name := "deliver", desc := "(II)I" } : MethodName) ({ cls := "TimberValley$SawMill", name := "deliver", desc := "(II)I" } : MethodName) ∈ gw := gw_m (lt_5 211 rfl) rfl
theorem kw_1291 : Cond.code ({ cls := "TimberValley$SawMill", name := "deliver", desc := "(II)I" } : MethodName) prog_8_method_8_code 5 (Option.some FieldType.int) ∈ gw := gw_m (lt_5 212 rfl) rfl
theorem kw_1292 : Cond.methodLinkNest "TimberValley$SawMill" 78 ({ cls := "TimberValley", name := "within", desc := "(III)Z" } : MethodName) "TimberValley" ∈ lw_tbl := lt_5 213 rfl
theorem kw_1293 : Cond.methodLink "TimberValley$SawMill" 81 ({ cls := "TimberValley$SawMill", name := "handOver", desc := "(II)V" } : MethodName) ∈ gw := gw_m (lt_5 214 rfl) rfl
theorem kw_1295 : Cond.instanceMethod ({ cls := "TimberValley$SawMill", name := "handOver", desc := "(II)V" } : MethodName) ∈ gw := gw_m (lt_5 216 rfl) rfl
theorem kw_1296 : Cond.code ({ cls := "TimberValley$SawMill", name := "handOver", desc := "(II)V" } : MethodName) prog_8_method_9_code 3 (Option.none : Option FieldType) ∈ gw := gw_m (lt_5 217 rfl) rfl
theorem kw_1297 : Cond.methodLink "TimberValleyLaw" 180 ({ cls := "TimberValley", name := "fire", desc := "(III)I" } : MethodName) ∈ gw := gw_m (lt_5 218 rfl) rfl
theorem kw_1298 : Cond.instanceMethod ({ cls := "TimberValley", name := "fire", desc := "(III)I" } : MethodName) ∈ gw := gw_m (lt_5 219 rfl) rfl
theorem kw_1299 : Cond.selects "TimberValley" ({ cls := "TimberValley", name := "fire", desc := "(III)I" } : MethodName) ({ cls := "TimberValley", name := "fire", desc := "(III)I" } : MethodName) ∈ gw := gw_m (lt_5 220 rfl) rfl
theorem kw_1300 : Cond.code ({ cls := "TimberValley", name := "fire", desc := "(III)I" } : MethodName) prog_1_method_53_code 4 (Option.some FieldType.int) ∈ gw := gw_m (lt_5 221 rfl) rfl
theorem kw_1301 : Cond.methodLink "TimberValley" 413 ({ cls := "TimberValley", name := "burnFrom", desc := "(III)I" } : MethodName) ∈ gw := gw_m (lt_5 222 rfl) rfl
theorem kw_1303 : Cond.instanceMethod ({ cls := "TimberValley", name := "burnFrom", desc := "(III)I" } : MethodName) ∈ gw := gw_m (lt_5 224 rfl) rfl
theorem kw_1304 : Cond.code ({ cls := "TimberValley", name := "burnFrom", desc := "(III)I" } : MethodName) prog_1_method_55_code 7 (Option.some FieldType.int) ∈ gw := gw_m (lt_5 225 rfl) rfl
theorem kw_1305 : Cond.methodLink "TimberValley" 416 ({ cls := "TimberValley$Land", name := "spreadFire", desc := "(IIII)I" } : MethodName) ∈ gw := gw_m (lt_5 226 rfl) rfl
theorem kw_1306 : Cond.instanceMethod ({ cls := "TimberValley$Land", name := "spreadFire", desc := "(IIII)I" } : MethodName) ∈ gw := gw_m (lt_5 227 rfl) rfl
theorem kw_1307 : Cond.selects "TimberValley$Land" ({ cls := "TimberValley$Land", name := "spreadFire", desc := "(IIII)I" } : MethodName) ({ cls := "TimberValley$Land", name := "spreadFire", desc := "(IIII)I" } : MethodName) ∈ gw := gw_m (lt_5 228 rfl) rfl
theorem kw_1308 : Cond.code ({ cls := "TimberValley$Land", name := "spreadFire", desc := "(IIII)I" } : MethodName) prog_5_method_13_code 8 (Option.some FieldType.int) ∈ gw := gw_m (lt_5 229 rfl) rfl
theorem kw_1309 : Cond.methodLink "TimberValley$Land" 64 ({ cls := "TimberValley$Land", name := "kindle", desc := "(IIII)I" } : MethodName) ∈ gw := gw_m (lt_5 230 rfl) rfl
theorem kw_1311 : Cond.instanceMethod ({ cls := "TimberValley$Land", name := "kindle", desc := "(IIII)I" } : MethodName) ∈ gw := gw_m (lt_5 232 rfl) rfl
theorem kw_1312 : Cond.code ({ cls := "TimberValley$Land", name := "kindle", desc := "(IIII)I" } : MethodName) prog_5_method_14_code 8 (Option.some FieldType.int) ∈ gw := gw_m (lt_5 233 rfl) rfl
theorem kw_1313 : Cond.methodLink "TimberValley$Land" 68 ({ cls := "TimberValley$Land", name := "beside", desc := "(II)I" } : MethodName) ∈ gw := gw_m (lt_5 234 rfl) rfl
theorem kw_1314 : Cond.static ({ cls := "TimberValley$Land", name := "beside", desc := "(II)I" } : MethodName) ∈ gw := gw_m (lt_5 235 rfl) rfl
theorem kw_1315 : Cond.code ({ cls := "TimberValley$Land", name := "beside", desc := "(II)I" } : MethodName) prog_5_method_17_code 4 (Option.some FieldType.int) ∈ gw := gw_m (lt_5 236 rfl) rfl
theorem kw_1316 : Cond.methodLink "TimberValley$Land" 71 ({ cls := "TimberValley$Land", name := "windAid", desc := "(II)I" } : MethodName) ∈ gw := gw_m (lt_5 237 rfl) rfl
theorem kw_1317 : Cond.static ({ cls := "TimberValley$Land", name := "windAid", desc := "(II)I" } : MethodName) ∈ gw := gw_m (lt_5 238 rfl) rfl
theorem kw_1318 : Cond.code ({ cls := "TimberValley$Land", name := "windAid", desc := "(II)I" } : MethodName) prog_5_method_16_code 2 (Option.some FieldType.int) ∈ gw := gw_m (lt_5 239 rfl) rfl
theorem kw_1319 : Cond.methodLink "TimberValley$Land" 74 ({ cls := "TimberValley$Land", name := "catches", desc := "(III)Z" } : MethodName) ∈ gw := gw_m (lt_6 0 rfl) rfl
theorem kw_1321 : Cond.instanceMethod ({ cls := "TimberValley$Land", name := "catches", desc := "(III)Z" } : MethodName) ∈ gw := gw_m (lt_6 2 rfl) rfl
theorem kw_1322 : Cond.code ({ cls := "TimberValley$Land", name := "catches", desc := "(III)Z" } : MethodName) prog_5_method_15_code 6 (Option.some FieldType.boolean) ∈ gw := gw_m (lt_6 3 rfl) rfl
theorem kw_1323 : Cond.methodLink "TimberValley$Land" 50 ({ cls := "TimberValley$Land", name := "stemsIn", desc := "(I)I" } : MethodName) ∈ gw := gw_m (lt_6 4 rfl) rfl
theorem kw_1324 : Cond.methodLink "TimberValley" 419 ({ cls := "TimberValley$Land", name := "clearBurnt", desc := "()V" } : MethodName) ∈ gw := gw_m (lt_6 5 rfl) rfl
theorem kw_1325 : Cond.instanceMethod ({ cls := "TimberValley$Land", name := "clearBurnt", desc := "()V" } : MethodName) ∈ gw := gw_m (lt_6 6 rfl) rfl
theorem kw_1326 : Cond.selects "TimberValley$Land" ({ cls := "TimberValley$Land", name := "clearBurnt", desc := "()V" } : MethodName) ({ cls := "TimberValley$Land", name := "clearBurnt", desc := "()V" } : MethodName) ∈ gw := gw_m (lt_6 7 rfl) rfl
theorem kw_1327 : Cond.code ({ cls := "TimberValley$Land", name := "clearBurnt", desc := "()V" } : MethodName) prog_5_method_18_code 2 (Option.none : Option FieldType) ∈ gw := gw_m (lt_6 8 rfl) rfl
theorem kw_1328 : Cond.methodLink "TimberValley$Land" 78 ({ cls := "TimberValley$Land", name := "clearCell", desc := "(I)V" } : MethodName) ∈ gw := gw_m (lt_6 9 rfl) rfl
theorem kw_1330 : Cond.instanceMethod ({ cls := "TimberValley$Land", name := "clearCell", desc := "(I)V" } : MethodName) ∈ gw := gw_m (lt_6 11 rfl) rfl
theorem kw_1331 : Cond.code ({ cls := "TimberValley$Land", name := "clearCell", desc := "(I)V" } : MethodName) prog_5_method_19_code 5 (Option.none : Option FieldType) ∈ gw := gw_m (lt_6 12 rfl) rfl
theorem kw_1332 : Cond.methodLink "TimberValleyLaw" 184 ({ cls := "TimberValley", name := "burn", desc := "(I)I" } : MethodName) ∈ gw := gw_m (lt_6 13 rfl) rfl
theorem kw_1333 : Cond.instanceMethod ({ cls := "TimberValley", name := "burn", desc := "(I)I" } : MethodName) ∈ gw := gw_m (lt_6 14 rfl) rfl
theorem kw_1334 : Cond.selects "TimberValley" ({ cls := "TimberValley", name := "burn", desc := "(I)I" } : MethodName) ({ cls := "TimberValley", name := "burn", desc := "(I)I" } : MethodName) ∈ gw := gw_m (lt_6 15 rfl) rfl
theorem kw_1335 : Cond.code ({ cls := "TimberValley", name := "burn", desc := "(I)I" } : MethodName) prog_1_method_54_code 2 (Option.some FieldType.int) ∈ gw := gw_m (lt_6 16 rfl) rfl
theorem kw_1336 : Cond.methodLink "TimberValleyLaw" 188 ({ cls := "TimberValley", name := "spur", desc := "(III)I" } : MethodName) ∈ gw := gw_m (lt_6 17 rfl) rfl
theorem kw_1337 : Cond.instanceMethod ({ cls := "TimberValley", name := "spur", desc := "(III)I" } : MethodName) ∈ gw := gw_m (lt_6 18 rfl) rfl
theorem kw_1338 : Cond.selects "TimberValley" ({ cls := "TimberValley", name := "spur", desc := "(III)I" } : MethodName) ({ cls := "TimberValley", name := "spur", desc := "(III)I" } : MethodName) ∈ gw := gw_m (lt_6 19 rfl) rfl
theorem kw_1339 : Cond.code ({ cls := "TimberValley", name := "spur", desc := "(III)I" } : MethodName) prog_1_method_56_code 4 (Option.some FieldType.int) ∈ gw := gw_m (lt_6 20 rfl) rfl
theorem kw_1340 : Cond.methodLink "TimberValley" 428 ({ cls := "TimberValley$Plans", name := "addSpur", desc := "(III)I" } : MethodName) ∈ gw := gw_m (lt_6 21 rfl) rfl
theorem kw_1341 : Cond.instanceMethod ({ cls := "TimberValley$Plans", name := "addSpur", desc := "(III)I" } : MethodName) ∈ gw := gw_m (lt_6 22 rfl) rfl
theorem kw_1342 : Cond.selects "TimberValley$Plans" ({ cls := "TimberValley$Plans", name := "addSpur", desc := "(III)I" } : MethodName) ({ cls := "TimberValley$Plans", name := "addSpur", desc := "(III)I" } : MethodName) ∈ gw := gw_m (lt_6 23 rfl) rfl
theorem kw_1343 : Cond.code ({ cls := "TimberValley$Plans", name := "addSpur", desc := "(III)I" } : MethodName) prog_7_method_2_code 4 (Option.some FieldType.int) ∈ gw := gw_m (lt_6 24 rfl) rfl
theorem kw_1344 : Cond.methodLink "TimberValleyLaw" 192 ({ cls := "TimberValley", name := "asked", desc := "(II)Z" } : MethodName) ∈ gw := gw_m (lt_6 25 rfl) rfl
theorem kw_1345 : Cond.instanceMethod ({ cls := "TimberValley", name := "asked", desc := "(II)Z" } : MethodName) ∈ gw := gw_m (lt_6 26 rfl) rfl
theorem kw_1346 : Cond.selects "TimberValley" ({ cls := "TimberValley", name := "asked", desc := "(II)Z" } : MethodName) ({ cls := "TimberValley", name := "asked", desc := "(II)Z" } : MethodName) ∈ gw := gw_m (lt_6 27 rfl) rfl
theorem kw_1347 : Cond.code ({ cls := "TimberValley", name := "asked", desc := "(II)Z" } : MethodName) prog_1_method_57_code 3 (Option.some FieldType.boolean) ∈ gw := gw_m (lt_6 28 rfl) rfl
theorem kw_1348 : Cond.methodLink "TimberValleyLaw" 196 ({ cls := "TimberValley", name := "rails", desc := "(I)I" } : MethodName) ∈ gw := gw_m (lt_6 29 rfl) rfl
theorem kw_1349 : Cond.instanceMethod ({ cls := "TimberValley", name := "rails", desc := "(I)I" } : MethodName) ∈ gw := gw_m (lt_6 30 rfl) rfl
theorem kw_1350 : Cond.selects "TimberValley" ({ cls := "TimberValley", name := "rails", desc := "(I)I" } : MethodName) ({ cls := "TimberValley", name := "rails", desc := "(I)I" } : MethodName) ∈ gw := gw_m (lt_6 31 rfl) rfl
theorem kw_1351 : Cond.code ({ cls := "TimberValley", name := "rails", desc := "(I)I" } : MethodName) prog_1_method_58_code 2 (Option.some FieldType.int) ∈ gw := gw_m (lt_6 32 rfl) rfl
theorem kw_1352 : Cond.methodLink "TimberValley" 434 ({ cls := "TimberValley$Plans", name := "planRails", desc := "(II)I" } : MethodName) ∈ gw := gw_m (lt_6 33 rfl) rfl
theorem kw_1353 : Cond.instanceMethod ({ cls := "TimberValley$Plans", name := "planRails", desc := "(II)I" } : MethodName) ∈ gw := gw_m (lt_6 34 rfl) rfl
theorem kw_1354 : Cond.selects "TimberValley$Plans" ({ cls := "TimberValley$Plans", name := "planRails", desc := "(II)I" } : MethodName) ({ cls := "TimberValley$Plans", name := "planRails", desc := "(II)I" } : MethodName) ∈ gw := gw_m (lt_6 35 rfl) rfl
theorem kw_1355 : Cond.code ({ cls := "TimberValley$Plans", name := "planRails", desc := "(II)I" } : MethodName) prog_7_method_3_code 5 (Option.some FieldType.int) ∈ gw := gw_m (lt_6 36 rfl) rfl
theorem kw_1356 : Cond.methodLink "TimberValley$Plans" 67 ({ cls := "TimberValley$Plans", name := "addUpSets", desc := "()V" } : MethodName) ∈ gw := gw_m (lt_6 37 rfl) rfl
theorem kw_1358 : Cond.instanceMethod ({ cls := "TimberValley$Plans", name := "addUpSets", desc := "()V" } : MethodName) ∈ gw := gw_m (lt_6 39 rfl) rfl
theorem kw_1359 : Cond.code ({ cls := "TimberValley$Plans", name := "addUpSets", desc := "()V" } : MethodName) prog_7_method_4_code 4 (Option.none : Option FieldType) ∈ gw := gw_m (lt_6 40 rfl) rfl
theorem kw_1360 : Cond.methodLink "TimberValley$Plans" 70 ({ cls := "TimberValley$Plans", name := "weighSeason", desc := "(III)V" } : MethodName) ∈ gw := gw_m (lt_6 41 rfl) rfl
theorem kw_1362 : Cond.instanceMethod ({ cls := "TimberValley$Plans", name := "weighSeason", desc := "(III)V" } : MethodName) ∈ gw := gw_m (lt_6 43 rfl) rfl
theorem kw_1363 : Cond.code ({ cls := "TimberValley$Plans", name := "weighSeason", desc := "(III)V" } : MethodName) prog_7_method_5_code 7 (Option.none : Option FieldType) ∈ gw := gw_m (lt_6 44 rfl) rfl
theorem kw_1364 : Cond.methodLink "TimberValley$Plans" 86 ({ cls := "java/lang/Integer", name := "bitCount", desc := "(I)I" } : MethodName) ∈ gw := gw_m (lt_6 45 rfl) rfl
theorem kw_1365 : Cond.static ({ cls := "java/lang/Integer", name := "bitCount", desc := "(I)I" } : MethodName) ∈ gw := gw_m (lt_6 46 rfl) rfl
theorem kw_1366 : Cond.code ({ cls := "java/lang/Integer", name := "bitCount", desc := "(I)I" } : MethodName) prog_17_method_49_code 1 (Option.some FieldType.int) ∈ gw := gw_m (lt_6 47 rfl) rfl
theorem kw_1367 : Cond.constant "java/lang/Integer" 265 (1431655765 : Int32) ∈ gw := gw_m (lt_6 48 rfl) rfl
theorem kw_1368 : Cond.constant "java/lang/Integer" 266 (858993459 : Int32) ∈ gw := gw_m (lt_6 49 rfl) rfl
theorem kw_1369 : Cond.constant "java/lang/Integer" 267 (252645135 : Int32) ∈ gw := gw_m (lt_6 50 rfl) rfl
theorem kw_1370 : Cond.constant "TimberValley$Plans" 92 (100000000 : Int32) ∈ gw := gw_m (lt_6 51 rfl) rfl
theorem kw_1371 : Cond.methodLink "TimberValley$Plans" 74 ({ cls := "TimberValley$Plans", name := "lookAhead", desc := "(I)V" } : MethodName) ∈ gw := gw_m (lt_6 52 rfl) rfl
theorem kw_1373 : Cond.instanceMethod ({ cls := "TimberValley$Plans", name := "lookAhead", desc := "(I)V" } : MethodName) ∈ gw := gw_m (lt_6 54 rfl) rfl
theorem kw_1374 : Cond.code ({ cls := "TimberValley$Plans", name := "lookAhead", desc := "(I)V" } : MethodName) prog_7_method_6_code 8 (Option.none : Option FieldType) ∈ gw := gw_m (lt_6 55 rfl) rfl
theorem kw_1375 : Cond.methodLink "TimberValley$Plans" 93 ({ cls := "java/lang/System", name := "arraycopy", desc := "(Ljava/lang/Object;ILjava/lang/Object;II)V" } : MethodName) ∈ gw := gw_m (lt_6 56 rfl) rfl
theorem kw_1376 : Cond.static ({ cls := "java/lang/System", name := "arraycopy", desc := "(Ljava/lang/Object;ILjava/lang/Object;II)V" } : MethodName) ∈ gw := gw_m (lt_6 57 rfl) rfl
theorem kw_1377 : Cond.native ({ cls := "java/lang/System", name := "arraycopy", desc := "(Ljava/lang/Object;ILjava/lang/Object;II)V" } : MethodName) ∈ gw := gw_m (lt_6 58 rfl) rfl
theorem kw_1378 : Cond.methodLink "TimberValley$Plans" 99 ({ cls := "java/lang/Math", name := "min", desc := "(II)I" } : MethodName) ∈ gw := gw_m (lt_6 59 rfl) rfl
theorem kw_1379 : Cond.methodLink "TimberValley$Plans" 78 ({ cls := "TimberValley$Plans", name := "firstBest", desc := "(II)I" } : MethodName) ∈ gw := gw_m (lt_6 60 rfl) rfl
theorem kw_1381 : Cond.instanceMethod ({ cls := "TimberValley$Plans", name := "firstBest", desc := "(II)I" } : MethodName) ∈ gw := gw_m (lt_6 62 rfl) rfl
theorem kw_1382 : Cond.code ({ cls := "TimberValley$Plans", name := "firstBest", desc := "(II)I" } : MethodName) prog_7_method_7_code 5 (Option.some FieldType.int) ∈ gw := gw_m (lt_6 63 rfl) rfl
theorem kw_1383 : Cond.methodLink "TimberValley$Plans" 82 ({ cls := "TimberValley$Plans", name := "costBehind", desc := "(III)I" } : MethodName) ∈ gw := gw_m (lt_6 64 rfl) rfl
theorem kw_1385 : Cond.instanceMethod ({ cls := "TimberValley$Plans", name := "costBehind", desc := "(III)I" } : MethodName) ∈ gw := gw_m (lt_6 66 rfl) rfl
theorem kw_1386 : Cond.code ({ cls := "TimberValley$Plans", name := "costBehind", desc := "(III)I" } : MethodName) prog_7_method_8_code 4 (Option.some FieldType.int) ∈ gw := gw_m (lt_6 67 rfl) rfl
theorem kw_1387 : Cond.methodLink "TimberValleyLaw" 200 ({ cls := "TimberValley", name := "railsOf", desc := "(II)I" } : MethodName) ∈ gw := gw_m (lt_6 68 rfl) rfl
theorem kw_1388 : Cond.instanceMethod ({ cls := "TimberValley", name := "railsOf", desc := "(II)I" } : MethodName) ∈ gw := gw_m (lt_6 69 rfl) rfl
theorem kw_1389 : Cond.selects "TimberValley" ({ cls := "TimberValley", name := "railsOf", desc := "(II)I" } : MethodName) ({ cls := "TimberValley", name := "railsOf", desc := "(II)I" } : MethodName) ∈ gw := gw_m (lt_6 70 rfl) rfl
theorem kw_1390 : Cond.code ({ cls := "TimberValley", name := "railsOf", desc := "(II)I" } : MethodName) prog_1_method_59_code 3 (Option.some FieldType.int) ∈ gw := gw_m (lt_6 71 rfl) rfl
theorem kw_1391 : Cond.methodLink "TimberValleyLaw" 204 ({ cls := "TimberValley", name := "forty", desc := "(IIIIIII)I" } : MethodName) ∈ gw := gw_m (lt_6 72 rfl) rfl
theorem kw_1392 : Cond.instanceMethod ({ cls := "TimberValley", name := "forty", desc := "(IIIIIII)I" } : MethodName) ∈ gw := gw_m (lt_6 73 rfl) rfl
theorem kw_1393 : Cond.selects "TimberValley" ({ cls := "TimberValley", name := "forty", desc := "(IIIIIII)I" } : MethodName) ({ cls := "TimberValley", name := "forty", desc := "(IIIIIII)I" } : MethodName) ∈ gw := gw_m (lt_6 74 rfl) rfl
theorem kw_1394 : Cond.code ({ cls := "TimberValley", name := "forty", desc := "(IIIIIII)I" } : MethodName) prog_1_method_60_code 8 (Option.some FieldType.int) ∈ gw := gw_m (lt_6 75 rfl) rfl
theorem kw_1395 : Cond.methodLink "TimberValley" 440 ({ cls := "TimberValley$Plans", name := "startCuts", desc := "(IIII)V" } : MethodName) ∈ gw := gw_m (lt_6 76 rfl) rfl
theorem kw_1396 : Cond.instanceMethod ({ cls := "TimberValley$Plans", name := "startCuts", desc := "(IIII)V" } : MethodName) ∈ gw := gw_m (lt_6 77 rfl) rfl
theorem kw_1397 : Cond.selects "TimberValley$Plans" ({ cls := "TimberValley$Plans", name := "startCuts", desc := "(IIII)V" } : MethodName) ({ cls := "TimberValley$Plans", name := "startCuts", desc := "(IIII)V" } : MethodName) ∈ gw := gw_m (lt_6 78 rfl) rfl
theorem kw_1398 : Cond.code ({ cls := "TimberValley$Plans", name := "startCuts", desc := "(IIII)V" } : MethodName) prog_7_method_9_code 5 (Option.none : Option FieldType) ∈ gw := gw_m (lt_6 79 rfl) rfl
theorem kw_1399 : Cond.methodLink "TimberValley" 443 ({ cls := "TimberValley$Plans", name := "planCuts", desc := "(III)I" } : MethodName) ∈ gw := gw_m (lt_6 80 rfl) rfl
theorem kw_1400 : Cond.instanceMethod ({ cls := "TimberValley$Plans", name := "planCuts", desc := "(III)I" } : MethodName) ∈ gw := gw_m (lt_6 81 rfl) rfl
theorem kw_1401 : Cond.selects "TimberValley$Plans" ({ cls := "TimberValley$Plans", name := "planCuts", desc := "(III)I" } : MethodName) ({ cls := "TimberValley$Plans", name := "planCuts", desc := "(III)I" } : MethodName) ∈ gw := gw_m (lt_6 82 rfl) rfl
theorem kw_1402 : Cond.code ({ cls := "TimberValley$Plans", name := "planCuts", desc := "(III)I" } : MethodName) prog_7_method_10_code 6 (Option.some FieldType.int) ∈ gw := gw_m (lt_6 83 rfl) rfl
theorem kw_1403 : Cond.methodLink "TimberValley$Plans" 104 ({ cls := "TimberValley$Plans", name := "weighPeriod", desc := "(IIIII)V" } : MethodName) ∈ gw := gw_m (lt_6 84 rfl) rfl
theorem kw_1405 : Cond.instanceMethod ({ cls := "TimberValley$Plans", name := "weighPeriod", desc := "(IIIII)V" } : MethodName) ∈ gw := gw_m (lt_6 86 rfl) rfl
theorem kw_1406 : Cond.code ({ cls := "TimberValley$Plans", name := "weighPeriod", desc := "(IIIII)V" } : MethodName) prog_7_method_12_code 10 (Option.none : Option FieldType) ∈ gw := gw_m (lt_6 87 rfl) rfl
theorem kw_1407 : Cond.methodLink "TimberValley$Plans" 108 ({ cls := "TimberValley$Plans", name := "state", desc := "(III)I" } : MethodName) ∈ gw := gw_m (lt_6 88 rfl) rfl
theorem kw_1408 : Cond.static ({ cls := "TimberValley$Plans", name := "state", desc := "(III)I" } : MethodName) ∈ gw := gw_m (lt_6 89 rfl) rfl
theorem kw_1409 : Cond.code ({ cls := "TimberValley$Plans", name := "state", desc := "(III)I" } : MethodName) prog_7_method_11_code 5 (Option.some FieldType.int) ∈ gw := gw_m (lt_6 90 rfl) rfl
theorem kw_1410 : Cond.methodLink "TimberValley$Plans" 114 ({ cls := "TimberValley$Plans", name := "canBe", desc := "(IIII)Z" } : MethodName) ∈ gw := gw_m (lt_6 91 rfl) rfl
theorem kw_1412 : Cond.instanceMethod ({ cls := "TimberValley$Plans", name := "canBe", desc := "(IIII)Z" } : MethodName) ∈ gw := gw_m (lt_6 93 rfl) rfl
theorem kw_1413 : Cond.code ({ cls := "TimberValley$Plans", name := "canBe", desc := "(IIII)Z" } : MethodName) prog_7_method_13_code 5 (Option.some FieldType.boolean) ∈ gw := gw_m (lt_6 94 rfl) rfl
theorem kw_1414 : Cond.methodLink "TimberValley$Plans" 118 ({ cls := "TimberValley$Plans", name := "bestCut", desc := "(IIIIIII)I" } : MethodName) ∈ gw := gw_m (lt_6 95 rfl) rfl
theorem kw_1416 : Cond.instanceMethod ({ cls := "TimberValley$Plans", name := "bestCut", desc := "(IIIIIII)I" } : MethodName) ∈ gw := gw_m (lt_6 97 rfl) rfl
theorem kw_1417 : Cond.code ({ cls := "TimberValley$Plans", name := "bestCut", desc := "(IIIIIII)I" } : MethodName) prog_7_method_14_code 14 (Option.some FieldType.int) ∈ gw := gw_m (lt_6 98 rfl) rfl
theorem kw_1418 : Cond.methodLinkNest "TimberValley$Plans" 122 ({ cls := "TimberValley", name := "within", desc := "(III)Z" } : MethodName) "TimberValley" ∈ lw_tbl := lt_6 99 rfl
theorem kw_1419 : Cond.methodLink "TimberValley$Plans" 111 ({ cls := "TimberValley$Plans", name := "keepCuts", desc := "(III)V" } : MethodName) ∈ gw := gw_m (lt_6 100 rfl) rfl
theorem kw_1421 : Cond.instanceMethod ({ cls := "TimberValley$Plans", name := "keepCuts", desc := "(III)V" } : MethodName) ∈ gw := gw_m (lt_6 102 rfl) rfl
theorem kw_1422 : Cond.code ({ cls := "TimberValley$Plans", name := "keepCuts", desc := "(III)V" } : MethodName) prog_7_method_15_code 8 (Option.none : Option FieldType) ∈ gw := gw_m (lt_6 103 rfl) rfl
theorem kw_1423 : Cond.methodLink "TimberValleyLaw" 209 ({ cls := "TimberValley", name := "cutIn", desc := "(II)I" } : MethodName) ∈ gw := gw_m (lt_6 104 rfl) rfl
theorem kw_1424 : Cond.instanceMethod ({ cls := "TimberValley", name := "cutIn", desc := "(II)I" } : MethodName) ∈ gw := gw_m (lt_6 105 rfl) rfl
theorem kw_1425 : Cond.selects "TimberValley" ({ cls := "TimberValley", name := "cutIn", desc := "(II)I" } : MethodName) ({ cls := "TimberValley", name := "cutIn", desc := "(II)I" } : MethodName) ∈ gw := gw_m (lt_6 106 rfl) rfl
theorem kw_1426 : Cond.code ({ cls := "TimberValley", name := "cutIn", desc := "(II)I" } : MethodName) prog_1_method_61_code 3 (Option.some FieldType.int) ∈ gw := gw_m (lt_6 107 rfl) rfl
theorem kw_1427 : Cond.methodLink "TimberValleyLaw" 213 ({ cls := "TimberValley", name := "row", desc := "(IZI)Z" } : MethodName) ∈ gw := gw_m (lt_6 108 rfl) rfl
theorem kw_1428 : Cond.instanceMethod ({ cls := "TimberValley", name := "row", desc := "(IZI)Z" } : MethodName) ∈ gw := gw_m (lt_6 109 rfl) rfl
theorem kw_1429 : Cond.selects "TimberValley" ({ cls := "TimberValley", name := "row", desc := "(IZI)Z" } : MethodName) ({ cls := "TimberValley", name := "row", desc := "(IZI)Z" } : MethodName) ∈ gw := gw_m (lt_6 110 rfl) rfl
theorem kw_1430 : Cond.code ({ cls := "TimberValley", name := "row", desc := "(IZI)Z" } : MethodName) prog_1_method_62_code 4 (Option.some FieldType.boolean) ∈ gw := gw_m (lt_6 111 rfl) rfl
theorem kw_1431 : Cond.methodLink "TimberValley" 452 ({ cls := "TimberValley$Cruises", name := "begin", desc := "(IZI)V" } : MethodName) ∈ gw := gw_m (lt_6 112 rfl) rfl
theorem kw_1432 : Cond.instanceMethod ({ cls := "TimberValley$Cruises", name := "begin", desc := "(IZI)V" } : MethodName) ∈ gw := gw_m (lt_6 113 rfl) rfl
theorem kw_1433 : Cond.selects "TimberValley$Cruises" ({ cls := "TimberValley$Cruises", name := "begin", desc := "(IZI)V" } : MethodName) ({ cls := "TimberValley$Cruises", name := "begin", desc := "(IZI)V" } : MethodName) ∈ gw := gw_m (lt_6 114 rfl) rfl
theorem kw_1434 : Cond.code ({ cls := "TimberValley$Cruises", name := "begin", desc := "(IZI)V" } : MethodName) prog_4_method_2_code 5 (Option.none : Option FieldType) ∈ gw := gw_m (lt_6 115 rfl) rfl
theorem kw_1435 : Cond.methodLink "TimberValleyLaw" 218 ({ cls := "TimberValley", name := "write", desc := "(III)Z" } : MethodName) ∈ gw := gw_m (lt_6 116 rfl) rfl
theorem kw_1436 : Cond.instanceMethod ({ cls := "TimberValley", name := "write", desc := "(III)Z" } : MethodName) ∈ gw := gw_m (lt_6 117 rfl) rfl
theorem kw_1437 : Cond.selects "TimberValley" ({ cls := "TimberValley", name := "write", desc := "(III)Z" } : MethodName) ({ cls := "TimberValley", name := "write", desc := "(III)Z" } : MethodName) ∈ gw := gw_m (lt_6 118 rfl) rfl
theorem kw_1438 : Cond.code ({ cls := "TimberValley", name := "write", desc := "(III)Z" } : MethodName) prog_1_method_63_code 4 (Option.some FieldType.boolean) ∈ gw := gw_m (lt_6 119 rfl) rfl
theorem kw_1439 : Cond.methodLink "TimberValley" 456 ({ cls := "TimberValley$Cruises", name := "hasPlace", desc := "(II)Z" } : MethodName) ∈ gw := gw_m (lt_6 120 rfl) rfl
theorem kw_1440 : Cond.instanceMethod ({ cls := "TimberValley$Cruises", name := "hasPlace", desc := "(II)Z" } : MethodName) ∈ gw := gw_m (lt_6 121 rfl) rfl
theorem kw_1441 : Cond.selects "TimberValley$Cruises" ({ cls := "TimberValley$Cruises", name := "hasPlace", desc := "(II)Z" } : MethodName) ({ cls := "TimberValley$Cruises", name := "hasPlace", desc := "(II)Z" } : MethodName) ∈ gw := gw_m (lt_6 122 rfl) rfl
theorem kw_1442 : Cond.code ({ cls := "TimberValley$Cruises", name := "hasPlace", desc := "(II)Z" } : MethodName) prog_4_method_4_code 3 (Option.some FieldType.boolean) ∈ gw := gw_m (lt_6 123 rfl) rfl
theorem kw_1443 : Cond.methodLink "TimberValley$Cruises" 29 ({ cls := "TimberValley$Cruises", name := "hasRow", desc := "(I)Z" } : MethodName) ∈ gw := gw_m (lt_6 124 rfl) rfl
theorem kw_1444 : Cond.instanceMethod ({ cls := "TimberValley$Cruises", name := "hasRow", desc := "(I)Z" } : MethodName) ∈ gw := gw_m (lt_6 125 rfl) rfl
theorem kw_1445 : Cond.selects "TimberValley$Cruises" ({ cls := "TimberValley$Cruises", name := "hasRow", desc := "(I)Z" } : MethodName) ({ cls := "TimberValley$Cruises", name := "hasRow", desc := "(I)Z" } : MethodName) ∈ gw := gw_m (lt_6 126 rfl) rfl
theorem kw_1446 : Cond.code ({ cls := "TimberValley$Cruises", name := "hasRow", desc := "(I)Z" } : MethodName) prog_4_method_3_code 2 (Option.some FieldType.boolean) ∈ gw := gw_m (lt_6 127 rfl) rfl
theorem kw_1447 : Cond.methodLinkNest "TimberValley$Cruises" 25 ({ cls := "TimberValley", name := "within", desc := "(III)Z" } : MethodName) "TimberValley" ∈ lw_tbl := lt_6 128 rfl
theorem kw_1448 : Cond.methodLink "TimberValley" 459 ({ cls := "TimberValley$Cruises", name := "put", desc := "(III)Z" } : MethodName) ∈ gw := gw_m (lt_6 129 rfl) rfl
theorem kw_1449 : Cond.instanceMethod ({ cls := "TimberValley$Cruises", name := "put", desc := "(III)Z" } : MethodName) ∈ gw := gw_m (lt_6 130 rfl) rfl
theorem kw_1450 : Cond.selects "TimberValley$Cruises" ({ cls := "TimberValley$Cruises", name := "put", desc := "(III)Z" } : MethodName) ({ cls := "TimberValley$Cruises", name := "put", desc := "(III)Z" } : MethodName) ∈ gw := gw_m (lt_6 131 rfl) rfl
theorem kw_1451 : Cond.code ({ cls := "TimberValley$Cruises", name := "put", desc := "(III)Z" } : MethodName) prog_4_method_5_code 6 (Option.some FieldType.boolean) ∈ gw := gw_m (lt_6 132 rfl) rfl
theorem kw_1452 : Cond.constant "TimberValley$Cruises" 33 (-1000000 : Int32) ∈ gw := gw_m (lt_6 133 rfl) rfl
theorem kw_1453 : Cond.constant "TimberValley$Cruises" 34 (1000000 : Int32) ∈ gw := gw_m (lt_6 134 rfl) rfl
theorem kw_1454 : Cond.methodLink "TimberValleyLaw" 225 ({ cls := "TimberValley", name := "cruise", desc := "(II)I" } : MethodName) ∈ gw := gw_m (lt_6 135 rfl) rfl
theorem kw_1455 : Cond.instanceMethod ({ cls := "TimberValley", name := "cruise", desc := "(II)I" } : MethodName) ∈ gw := gw_m (lt_6 136 rfl) rfl
theorem kw_1456 : Cond.selects "TimberValley" ({ cls := "TimberValley", name := "cruise", desc := "(II)I" } : MethodName) ({ cls := "TimberValley", name := "cruise", desc := "(II)I" } : MethodName) ∈ gw := gw_m (lt_6 137 rfl) rfl
theorem kw_1457 : Cond.code ({ cls := "TimberValley", name := "cruise", desc := "(II)I" } : MethodName) prog_1_method_65_code 3 (Option.some FieldType.int) ∈ gw := gw_m (lt_6 138 rfl) rfl
theorem kw_1458 : Cond.methodLink "TimberValley" 468 ({ cls := "TimberValley$Cruises", name := "hasRow", desc := "(I)Z" } : MethodName) ∈ gw := gw_m (lt_6 139 rfl) rfl
theorem kw_1459 : Cond.methodLink "TimberValley" 462 ({ cls := "TimberValley$Cruises", name := "hasNumber", desc := "(I)Z" } : MethodName) ∈ gw := gw_m (lt_6 140 rfl) rfl
theorem kw_1460 : Cond.instanceMethod ({ cls := "TimberValley$Cruises", name := "hasNumber", desc := "(I)Z" } : MethodName) ∈ gw := gw_m (lt_6 141 rfl) rfl
theorem kw_1461 : Cond.selects "TimberValley$Cruises" ({ cls := "TimberValley$Cruises", name := "hasNumber", desc := "(I)Z" } : MethodName) ({ cls := "TimberValley$Cruises", name := "hasNumber", desc := "(I)Z" } : MethodName) ∈ gw := gw_m (lt_6 142 rfl) rfl
theorem kw_1462 : Cond.code ({ cls := "TimberValley$Cruises", name := "hasNumber", desc := "(I)Z" } : MethodName) prog_4_method_6_code 2 (Option.some FieldType.boolean) ∈ gw := gw_m (lt_6 143 rfl) rfl
theorem kw_1463 : Cond.methodLink "TimberValley$Cruises" 35 ({ cls := "TimberValley$Cruises", name := "nextFrom", desc := "(II)I" } : MethodName) ∈ gw := gw_m (lt_6 144 rfl) rfl
theorem kw_1465 : Cond.instanceMethod ({ cls := "TimberValley$Cruises", name := "nextFrom", desc := "(II)I" } : MethodName) ∈ gw := gw_m (lt_6 146 rfl) rfl
theorem kw_1466 : Cond.code ({ cls := "TimberValley$Cruises", name := "nextFrom", desc := "(II)I" } : MethodName) prog_4_method_9_code 4 (Option.some FieldType.int) ∈ gw := gw_m (lt_6 147 rfl) rfl
theorem kw_1467 : Cond.methodLink "TimberValley" 471 ({ cls := "TimberValley$Cruises", name := "sumOf", desc := "(I)I" } : MethodName) ∈ gw := gw_m (lt_6 148 rfl) rfl
theorem kw_1468 : Cond.instanceMethod ({ cls := "TimberValley$Cruises", name := "sumOf", desc := "(I)I" } : MethodName) ∈ gw := gw_m (lt_6 149 rfl) rfl
theorem kw_1469 : Cond.selects "TimberValley$Cruises" ({ cls := "TimberValley$Cruises", name := "sumOf", desc := "(I)I" } : MethodName) ({ cls := "TimberValley$Cruises", name := "sumOf", desc := "(I)I" } : MethodName) ∈ gw := gw_m (lt_6 150 rfl) rfl
theorem kw_1470 : Cond.code ({ cls := "TimberValley$Cruises", name := "sumOf", desc := "(I)I" } : MethodName) prog_4_method_10_code 4 (Option.some FieldType.int) ∈ gw := gw_m (lt_6 151 rfl) rfl
theorem kw_1471 : Cond.methodLink "TimberValley$Cruises" 42 ({ cls := "TimberValley$Cruises", name := "eighthsAt", desc := "(II)I" } : MethodName) ∈ gw := gw_m (lt_6 152 rfl) rfl
theorem kw_1472 : Cond.instanceMethod ({ cls := "TimberValley$Cruises", name := "eighthsAt", desc := "(II)I" } : MethodName) ∈ gw := gw_m (lt_6 153 rfl) rfl
theorem kw_1473 : Cond.selects "TimberValley$Cruises" ({ cls := "TimberValley$Cruises", name := "eighthsAt", desc := "(II)I" } : MethodName) ({ cls := "TimberValley$Cruises", name := "eighthsAt", desc := "(II)I" } : MethodName) ∈ gw := gw_m (lt_6 154 rfl) rfl
theorem kw_1474 : Cond.code ({ cls := "TimberValley$Cruises", name := "eighthsAt", desc := "(II)I" } : MethodName) prog_4_method_7_code 5 (Option.some FieldType.int) ∈ gw := gw_m (lt_6 155 rfl) rfl
theorem kw_1475 : Cond.methodLink "TimberValley$Cruises" 39 ({ cls := "TimberValley$Cruises", name := "lastUpTo", desc := "(II)I" } : MethodName) ∈ gw := gw_m (lt_6 156 rfl) rfl
theorem kw_1477 : Cond.instanceMethod ({ cls := "TimberValley$Cruises", name := "lastUpTo", desc := "(II)I" } : MethodName) ∈ gw := gw_m (lt_6 158 rfl) rfl
theorem kw_1478 : Cond.code ({ cls := "TimberValley$Cruises", name := "lastUpTo", desc := "(II)I" } : MethodName) prog_4_method_8_code 4 (Option.some FieldType.int) ∈ gw := gw_m (lt_6 159 rfl) rfl
theorem kw_1479 : Cond.methodLink "TimberValley" 474 ({ cls := "TimberValley$Cruises", name := "spreadOf", desc := "(I)I" } : MethodName) ∈ gw := gw_m (lt_6 160 rfl) rfl
theorem kw_1480 : Cond.instanceMethod ({ cls := "TimberValley$Cruises", name := "spreadOf", desc := "(I)I" } : MethodName) ∈ gw := gw_m (lt_6 161 rfl) rfl
theorem kw_1481 : Cond.selects "TimberValley$Cruises" ({ cls := "TimberValley$Cruises", name := "spreadOf", desc := "(I)I" } : MethodName) ({ cls := "TimberValley$Cruises", name := "spreadOf", desc := "(I)I" } : MethodName) ∈ gw := gw_m (lt_6 162 rfl) rfl
theorem kw_1482 : Cond.code ({ cls := "TimberValley$Cruises", name := "spreadOf", desc := "(I)I" } : MethodName) prog_4_method_11_code 6 (Option.some FieldType.int) ∈ gw := gw_m (lt_6 163 rfl) rfl
theorem kw_1483 : Cond.methodLink "TimberValley$Cruises" 45 ({ cls := "java/lang/Math", name := "min", desc := "(II)I" } : MethodName) ∈ gw := gw_m (lt_6 164 rfl) rfl
theorem kw_1484 : Cond.methodLink "TimberValley$Cruises" 50 ({ cls := "java/lang/Math", name := "max", desc := "(II)I" } : MethodName) ∈ gw := gw_m (lt_6 165 rfl) rfl
theorem kw_1485 : Cond.methodLink "TimberValleyLaw" 229 ({ cls := "TimberValley", name := "knew", desc := "(III)I" } : MethodName) ∈ gw := gw_m (lt_6 166 rfl) rfl
theorem kw_1486 : Cond.instanceMethod ({ cls := "TimberValley", name := "knew", desc := "(III)I" } : MethodName) ∈ gw := gw_m (lt_6 167 rfl) rfl
theorem kw_1487 : Cond.selects "TimberValley" ({ cls := "TimberValley", name := "knew", desc := "(III)I" } : MethodName) ({ cls := "TimberValley", name := "knew", desc := "(III)I" } : MethodName) ∈ gw := gw_m (lt_6 168 rfl) rfl
theorem kw_1488 : Cond.code ({ cls := "TimberValley", name := "knew", desc := "(III)I" } : MethodName) prog_1_method_66_code 5 (Option.some FieldType.int) ∈ gw := gw_m (lt_6 169 rfl) rfl
theorem kw_1489 : Cond.methodLink "TimberValley" 477 ({ cls := "TimberValley$Log", name := "knownAs", desc := "(II)I" } : MethodName) ∈ gw := gw_m (lt_6 170 rfl) rfl
theorem kw_1490 : Cond.instanceMethod ({ cls := "TimberValley$Log", name := "knownAs", desc := "(II)I" } : MethodName) ∈ gw := gw_m (lt_6 171 rfl) rfl
theorem kw_1491 : Cond.selects "TimberValley$Log" ({ cls := "TimberValley$Log", name := "knownAs", desc := "(II)I" } : MethodName) ({ cls := "TimberValley$Log", name := "knownAs", desc := "(II)I" } : MethodName) ∈ gw := gw_m (lt_6 172 rfl) rfl
theorem kw_1492 : Cond.code ({ cls := "TimberValley$Log", name := "knownAs", desc := "(II)I" } : MethodName) prog_6_method_8_code 4 (Option.some FieldType.int) ∈ gw := gw_m (lt_6 173 rfl) rfl
theorem kw_1493 : Cond.methodLink "TimberValleyLaw" 233 ({ cls := "TimberValley", name := "alter", desc := "(III)Z" } : MethodName) ∈ gw := gw_m (lt_6 174 rfl) rfl
theorem kw_1494 : Cond.instanceMethod ({ cls := "TimberValley", name := "alter", desc := "(III)Z" } : MethodName) ∈ gw := gw_m (lt_6 175 rfl) rfl
theorem kw_1495 : Cond.selects "TimberValley" ({ cls := "TimberValley", name := "alter", desc := "(III)Z" } : MethodName) ({ cls := "TimberValley", name := "alter", desc := "(III)Z" } : MethodName) ∈ gw := gw_m (lt_6 176 rfl) rfl
theorem kw_1496 : Cond.code ({ cls := "TimberValley", name := "alter", desc := "(III)Z" } : MethodName) prog_1_method_67_code 5 (Option.some FieldType.boolean) ∈ gw := gw_m (lt_6 177 rfl) rfl
theorem kw_1497 : Cond.constant "TimberValley" 480 (65535 : Int32) ∈ gw := gw_m (lt_6 178 rfl) rfl
theorem kw_1498 : Cond.methodLink "TimberValleyLaw" 237 ({ cls := "TimberValley", name := "checked", desc := "(II)I" } : MethodName) ∈ gw := gw_m (lt_6 179 rfl) rfl
theorem kw_1499 : Cond.instanceMethod ({ cls := "TimberValley", name := "checked", desc := "(II)I" } : MethodName) ∈ gw := gw_m (lt_6 180 rfl) rfl
theorem kw_1500 : Cond.selects "TimberValley" ({ cls := "TimberValley", name := "checked", desc := "(II)I" } : MethodName) ({ cls := "TimberValley", name := "checked", desc := "(II)I" } : MethodName) ∈ gw := gw_m (lt_6 181 rfl) rfl
theorem kw_1501 : Cond.code ({ cls := "TimberValley", name := "checked", desc := "(II)I" } : MethodName) prog_1_method_68_code 5 (Option.some FieldType.int) ∈ gw := gw_m (lt_6 182 rfl) rfl
theorem kw_1502 : Cond.methodLink "TimberValley" 484 ({ cls := "TimberValley$Log", name := "faultyPlace", desc := "()I" } : MethodName) ∈ gw := gw_m (lt_6 183 rfl) rfl
theorem kw_1503 : Cond.instanceMethod ({ cls := "TimberValley$Log", name := "faultyPlace", desc := "()I" } : MethodName) ∈ gw := gw_m (lt_6 184 rfl) rfl
theorem kw_1504 : Cond.selects "TimberValley$Log" ({ cls := "TimberValley$Log", name := "faultyPlace", desc := "()I" } : MethodName) ({ cls := "TimberValley$Log", name := "faultyPlace", desc := "()I" } : MethodName) ∈ gw := gw_m (lt_6 185 rfl) rfl
theorem kw_1505 : Cond.code ({ cls := "TimberValley$Log", name := "faultyPlace", desc := "()I" } : MethodName) prog_6_method_11_code 4 (Option.some FieldType.int) ∈ gw := gw_m (lt_6 186 rfl) rfl
theorem kw_1506 : Cond.methodLink "TimberValley$Log" 80 ({ cls := "TimberValley$Log", name := "lackingOfAll", desc := "()I" } : MethodName) ∈ gw := gw_m (lt_6 187 rfl) rfl
theorem kw_1508 : Cond.instanceMethod ({ cls := "TimberValley$Log", name := "lackingOfAll", desc := "()I" } : MethodName) ∈ gw := gw_m (lt_6 189 rfl) rfl
theorem kw_1509 : Cond.code ({ cls := "TimberValley$Log", name := "lackingOfAll", desc := "()I" } : MethodName) prog_6_method_13_code 1 (Option.some FieldType.int) ∈ gw := gw_m (lt_6 190 rfl) rfl
theorem kw_1510 : Cond.methodLink "TimberValley$Log" 83 ({ cls := "java/lang/Math", name := "floorMod", desc := "(II)I" } : MethodName) ∈ gw := gw_m (lt_6 191 rfl) rfl
theorem kw_1511 : Cond.static ({ cls := "java/lang/Math", name := "floorMod", desc := "(II)I" } : MethodName) ∈ gw := gw_m (lt_6 192 rfl) rfl
theorem kw_1512 : Cond.code ({ cls := "java/lang/Math", name := "floorMod", desc := "(II)I" } : MethodName) prog_18_method_50_code 3 (Option.some FieldType.int) ∈ gw := gw_m (lt_6 193 rfl) rfl
theorem kw_1513 : Cond.methodLink "TimberValley$Log" 86 ({ cls := "TimberValley$Log", name := "rightNumber", desc := "(I)I" } : MethodName) ∈ gw := gw_m (lt_6 194 rfl) rfl
theorem kw_1514 : Cond.instanceMethod ({ cls := "TimberValley$Log", name := "rightNumber", desc := "(I)I" } : MethodName) ∈ gw := gw_m (lt_6 195 rfl) rfl
theorem kw_1515 : Cond.selects "TimberValley$Log" ({ cls := "TimberValley$Log", name := "rightNumber", desc := "(I)I" } : MethodName) ({ cls := "TimberValley$Log", name := "rightNumber", desc := "(I)I" } : MethodName) ∈ gw := gw_m (lt_6 196 rfl) rfl
theorem kw_1516 : Cond.code ({ cls := "TimberValley$Log", name := "rightNumber", desc := "(I)I" } : MethodName) prog_6_method_12_code 2 (Option.some FieldType.int) ∈ gw := gw_m (lt_6 197 rfl) rfl
theorem kw_1517 : Cond.constant "TimberValley$Log" 90 (65535 : Int32) ∈ gw := gw_m (lt_6 198 rfl) rfl
theorem kw_1518 : Cond.methodLink "TimberValley" 487 ({ cls := "TimberValley$Log", name := "rightNumber", desc := "(I)I" } : MethodName) ∈ gw := gw_m (lt_6 199 rfl) rfl
theorem kw_1519 : Cond.methodLink "TimberValleyLaw" 256 ({ cls := "TimberValley", name := "count", desc := "(I)I" } : MethodName) ∈ gw := gw_m (lt_6 200 rfl) rfl
theorem kw_1520 : Cond.instanceMethod ({ cls := "TimberValley", name := "count", desc := "(I)I" } : MethodName) ∈ gw := gw_m (lt_6 201 rfl) rfl
theorem kw_1521 : Cond.selects "TimberValley" ({ cls := "TimberValley", name := "count", desc := "(I)I" } : MethodName) ({ cls := "TimberValley", name := "count", desc := "(I)I" } : MethodName) ∈ gw := gw_m (lt_6 202 rfl) rfl
theorem kw_1522 : Cond.code ({ cls := "TimberValley", name := "count", desc := "(I)I" } : MethodName) prog_1_method_69_code 2 (Option.some FieldType.int) ∈ gw := gw_m (lt_6 203 rfl) rfl
theorem kw_1523 : Cond.methodLink "TimberValley" 490 ({ cls := "TimberValley", name := "ironLaid", desc := "()I" } : MethodName) ∈ gw := gw_m (lt_6 204 rfl) rfl
theorem kw_1525 : Cond.instanceMethod ({ cls := "TimberValley", name := "ironLaid", desc := "()I" } : MethodName) ∈ gw := gw_m (lt_6 206 rfl) rfl
theorem kw_1526 : Cond.code ({ cls := "TimberValley", name := "ironLaid", desc := "()I" } : MethodName) prog_1_method_19_code 4 (Option.some FieldType.int) ∈ gw := gw_m (lt_6 207 rfl) rfl
theorem kw_1527 : Cond.methodLink "TimberValley" 496 ({ cls := "TimberValley", name := "wagesPaid", desc := "()I" } : MethodName) ∈ gw := gw_m (lt_6 208 rfl) rfl
theorem kw_1529 : Cond.instanceMethod ({ cls := "TimberValley", name := "wagesPaid", desc := "()I" } : MethodName) ∈ gw := gw_m (lt_6 210 rfl) rfl
theorem kw_1530 : Cond.code ({ cls := "TimberValley", name := "wagesPaid", desc := "()I" } : MethodName) prog_1_method_70_code 4 (Option.some FieldType.int) ∈ gw := gw_m (lt_6 211 rfl) rfl
theorem kw_1531 : Cond.methodLink "TimberValley" 499 ({ cls := "TimberValley$Land", name := "allStems", desc := "()I" } : MethodName) ∈ gw := gw_m (lt_6 212 rfl) rfl
theorem kw_1532 : Cond.instanceMethod ({ cls := "TimberValley$Land", name := "allStems", desc := "()I" } : MethodName) ∈ gw := gw_m (lt_6 213 rfl) rfl
theorem kw_1533 : Cond.selects "TimberValley$Land" ({ cls := "TimberValley$Land", name := "allStems", desc := "()I" } : MethodName) ({ cls := "TimberValley$Land", name := "allStems", desc := "()I" } : MethodName) ∈ gw := gw_m (lt_6 214 rfl) rfl
theorem kw_1534 : Cond.code ({ cls := "TimberValley$Land", name := "allStems", desc := "()I" } : MethodName) prog_5_method_9_code 3 (Option.some FieldType.int) ∈ gw := gw_m (lt_6 215 rfl) rfl
theorem kw_1535 : Cond.methodLink "TimberValley" 502 ({ cls := "TimberValley", name := "logsThatBecame", desc := "(I)I" } : MethodName) ∈ gw := gw_m (lt_6 216 rfl) rfl
theorem kw_1537 : Cond.instanceMethod ({ cls := "TimberValley", name := "logsThatBecame", desc := "(I)I" } : MethodName) ∈ gw := gw_m (lt_6 218 rfl) rfl
theorem kw_1538 : Cond.code ({ cls := "TimberValley", name := "logsThatBecame", desc := "(I)I" } : MethodName) prog_1_method_71_code 5 (Option.some FieldType.int) ∈ gw := gw_m (lt_6 219 rfl) rfl
theorem kw_1539 : Cond.methodLink "TimberValleyLaw" 155 ({ cls := "TimberValleyLaw", name := "hand", desc := "(LTimberValley;II[J)I" } : MethodName) ∈ gw := gw_m (lt_6 220 rfl) rfl
theorem kw_1540 : Cond.static ({ cls := "TimberValleyLaw", name := "hand", desc := "(LTimberValley;II[J)I" } : MethodName) ∈ gw := gw_m (lt_6 221 rfl) rfl
theorem kw_1541 : Cond.codeWith ({ cls := "TimberValleyLaw", name := "hand", desc := "(LTimberValley;II[J)I" } : MethodName) method_3_code 5 (Option.some FieldType.int) [(0, 10, 13, 13)] ∈ gw := gw_m (lt_6 222 rfl) rfl
theorem kw_1542 : Cond.classLink "TimberValleyLaw" 13 "java/util/NoSuchElementException" ∈ gw := gw_m (lt_6 223 rfl) rfl
theorem kw_1543 : Cond.methodLink "TimberValleyLaw" 7 ({ cls := "TimberValley", name := "hand", desc := "(II)I" } : MethodName) ∈ gw := gw_m (lt_6 224 rfl) rfl
theorem kw_1544 : Cond.instanceMethod ({ cls := "TimberValley", name := "hand", desc := "(II)I" } : MethodName) ∈ gw := gw_m (lt_6 225 rfl) rfl
theorem kw_1545 : Cond.selects "TimberValley" ({ cls := "TimberValley", name := "hand", desc := "(II)I" } : MethodName) ({ cls := "TimberValley", name := "hand", desc := "(II)I" } : MethodName) ∈ gw := gw_m (lt_6 226 rfl) rfl
theorem kw_1546 : Cond.code ({ cls := "TimberValley", name := "hand", desc := "(II)I" } : MethodName) prog_1_method_46_code 9 (Option.some FieldType.int) ∈ gw := gw_m (lt_6 227 rfl) rfl
theorem kw_1547 : Cond.methodLink "TimberValley" 367 ({ cls := "TimberValley", name := "doubleDifference", desc := "(I)I" } : MethodName) ∈ gw := gw_m (lt_6 228 rfl) rfl
theorem kw_1549 : Cond.instanceMethod ({ cls := "TimberValley", name := "doubleDifference", desc := "(I)I" } : MethodName) ∈ gw := gw_m (lt_6 230 rfl) rfl
theorem kw_1550 : Cond.code ({ cls := "TimberValley", name := "doubleDifference", desc := "(I)I" } : MethodName) prog_1_method_47_code 3 (Option.some FieldType.int) ∈ gw := gw_m (lt_6 231 rfl) rfl
theorem kw_1551 : Cond.methodLink "TimberValley" 370 ({ cls := "java/lang/Math", name := "min", desc := "(II)I" } : MethodName) ∈ gw := gw_m (lt_6 232 rfl) rfl
theorem kw_1552 : Cond.methodLink "TimberValley" 375 ({ cls := "java/lang/Math", name := "max", desc := "(II)I" } : MethodName) ∈ gw := gw_m (lt_6 233 rfl) rfl
theorem kw_1553 : Cond.classLink "TimberValley" 378 "java/util/NoSuchElementException" ∈ gw := gw_m (lt_6 234 rfl) rfl
theorem kw_1554 : Cond.instantiable "java/util/NoSuchElementException" 6 ∈ gw := gw_m (lt_6 235 rfl) rfl
theorem kw_1562 : Cond.selects "java/util/NoSuchElementException" ({ cls := "java/lang/Throwable", name := "fillInStackTrace", desc := "(I)Ljava/lang/Throwable;" } : MethodName) ({ cls := "java/lang/Throwable", name := "fillInStackTrace", desc := "(I)Ljava/lang/Throwable;" } : MethodName) ∈ gw := gw_m (lt_7 3 rfl) rfl
theorem kw_1563 : Cond.selects "java/util/NoSuchElementException" ({ cls := "java/lang/Throwable", name := "fillInStackTrace", desc := "()Ljava/lang/Throwable;" } : MethodName) ({ cls := "java/lang/Throwable", name := "fillInStackTrace", desc := "()Ljava/lang/Throwable;" } : MethodName) ∈ gw := gw_m (lt_7 4 rfl) rfl
theorem kw_1564 : Cond.lays "java/util/NoSuchElementException" "java/lang/Throwable" "cause" "Ljava/lang/Throwable;" ∈ gw := gw_m (lt_7 5 rfl) rfl
theorem kw_1565 : Cond.lays "java/lang/Throwable" "java/lang/Throwable" "cause" "Ljava/lang/Throwable;" ∈ gw := gw_m (lt_7 6 rfl) rfl
theorem kw_1566 : Cond.lays "java/util/NoSuchElementException" "java/lang/Throwable" "stackTrace" "[Ljava/lang/StackTraceElement;" ∈ gw := gw_m (lt_7 7 rfl) rfl
theorem kw_1567 : Cond.lays "java/lang/Throwable" "java/lang/Throwable" "stackTrace" "[Ljava/lang/StackTraceElement;" ∈ gw := gw_m (lt_7 8 rfl) rfl
theorem kw_1568 : Cond.lays "java/util/NoSuchElementException" "java/lang/Throwable" "suppressedExceptions" "Ljava/util/List;" ∈ gw := gw_m (lt_7 9 rfl) rfl
theorem kw_1569 : Cond.lays "java/lang/Throwable" "java/lang/Throwable" "suppressedExceptions" "Ljava/util/List;" ∈ gw := gw_m (lt_7 10 rfl) rfl
theorem kw_1570 : Cond.lays "java/util/NoSuchElementException" "java/lang/Throwable" "detailMessage" "Ljava/lang/String;" ∈ gw := gw_m (lt_7 11 rfl) rfl
theorem kw_1571 : Cond.lays "java/lang/Throwable" "java/lang/Throwable" "detailMessage" "Ljava/lang/String;" ∈ gw := gw_m (lt_7 12 rfl) rfl
theorem kw_1572 : Cond.lays "java/util/NoSuchElementException" "java/lang/Throwable" "backtrace" "Ljava/lang/Object;" ∈ gw := gw_m (lt_7 13 rfl) rfl
theorem kw_1573 : Cond.lays "java/lang/Throwable" "java/lang/Throwable" "backtrace" "Ljava/lang/Object;" ∈ gw := gw_m (lt_7 14 rfl) rfl
theorem kw_1574 : Cond.fieldLink "java/lang/Throwable" 198 "java/lang/Throwable" "backtrace" "Ljava/lang/Object;" ∈ gw := gw_m (lt_7 15 rfl) rfl
theorem kw_1576 : Cond.instanceMethod ({ cls := "java/lang/Throwable", name := "<init>", desc := "()V" } : MethodName) ∈ gw := gw_m (lt_7 17 rfl) rfl
theorem kw_1577 : Cond.code ({ cls := "java/lang/Throwable", name := "<init>", desc := "()V" } : MethodName) prog_24_method_1_code 1 (Option.none : Option FieldType) ∈ gw := gw_m (lt_7 18 rfl) rfl
theorem kw_1578 : Cond.methodLink "java/lang/Throwable" 1 ({ cls := "java/lang/Object", name := "<init>", desc := "()V" } : MethodName) ∈ gw := gw_m (lt_7 19 rfl) rfl
theorem kw_1579 : Cond.fieldLink "java/lang/Throwable" 13 "java/lang/Throwable" "UNASSIGNED_STACK" "[Ljava/lang/StackTraceElement;" ∈ gw := gw_m (lt_7 20 rfl) rfl
theorem kw_1581 : Cond.fieldLink "java/lang/Throwable" 20 "java/lang/Throwable" "SUPPRESSED_SENTINEL" "Ljava/util/List;" ∈ gw := gw_m (lt_7 22 rfl) rfl
theorem kw_1583 : Cond.methodLink "java/lang/Throwable" 27 ({ cls := "java/lang/Throwable", name := "fillInStackTrace", desc := "()Ljava/lang/Throwable;" } : MethodName) ∈ gw := gw_m (lt_7 24 rfl) rfl
theorem kw_1584 : Cond.instanceMethod ({ cls := "java/lang/Throwable", name := "fillInStackTrace", desc := "()Ljava/lang/Throwable;" } : MethodName) ∈ gw := gw_m (lt_7 25 rfl) rfl
theorem kw_1587 : Cond.methodLink "java/lang/Throwable" 202 ({ cls := "java/lang/Throwable", name := "fillInStackTrace", desc := "(I)Ljava/lang/Throwable;" } : MethodName) ∈ gw := gw_m (lt_7 28 rfl) rfl
theorem kw_1589 : Cond.instanceMethod ({ cls := "java/lang/Throwable", name := "fillInStackTrace", desc := "(I)Ljava/lang/Throwable;" } : MethodName) ∈ gw := gw_m (lt_7 30 rfl) rfl
theorem kw_1590 : Cond.instantiable "java/lang/Throwable" 6 ∈ gw := gw_m (lt_7 31 rfl) rfl
theorem kw_1591 : Cond.native ({ cls := "java/lang/Throwable", name := "fillInStackTrace", desc := "(I)Ljava/lang/Throwable;" } : MethodName) ∈ gw := gw_m (lt_7 32 rfl) rfl
theorem kw_1592 : Cond.methodLink "TimberValley" 380 ({ cls := "java/util/NoSuchElementException", name := "<init>", desc := "()V" } : MethodName) ∈ gw := gw_m (lt_7 33 rfl) rfl
theorem kw_1593 : Cond.instanceMethod ({ cls := "java/util/NoSuchElementException", name := "<init>", desc := "()V" } : MethodName) ∈ gw := gw_m (lt_7 34 rfl) rfl
theorem kw_1594 : Cond.code ({ cls := "java/util/NoSuchElementException", name := "<init>", desc := "()V" } : MethodName) prog_25_method_1_code 1 (Option.none : Option FieldType) ∈ gw := gw_m (lt_7 35 rfl) rfl
theorem kw_1595 : Cond.methodLink "java/util/NoSuchElementException" 1 ({ cls := "java/lang/RuntimeException", name := "<init>", desc := "()V" } : MethodName) ∈ gw := gw_m (lt_7 36 rfl) rfl
theorem kw_1596 : Cond.instanceMethod ({ cls := "java/lang/RuntimeException", name := "<init>", desc := "()V" } : MethodName) ∈ gw := gw_m (lt_7 37 rfl) rfl
theorem kw_1597 : Cond.code ({ cls := "java/lang/RuntimeException", name := "<init>", desc := "()V" } : MethodName) prog_19_method_1_code 1 (Option.none : Option FieldType) ∈ gw := gw_m (lt_7 38 rfl) rfl
theorem kw_1598 : Cond.methodLink "java/lang/RuntimeException" 1 ({ cls := "java/lang/Exception", name := "<init>", desc := "()V" } : MethodName) ∈ gw := gw_m (lt_7 39 rfl) rfl
theorem kw_1599 : Cond.instanceMethod ({ cls := "java/lang/Exception", name := "<init>", desc := "()V" } : MethodName) ∈ gw := gw_m (lt_7 40 rfl) rfl
theorem kw_1600 : Cond.code ({ cls := "java/lang/Exception", name := "<init>", desc := "()V" } : MethodName) prog_16_method_1_code 1 (Option.none : Option FieldType) ∈ gw := gw_m (lt_7 41 rfl) rfl
theorem kw_1601 : Cond.methodLink "java/lang/Exception" 1 ({ cls := "java/lang/Throwable", name := "<init>", desc := "()V" } : MethodName) ∈ gw := gw_m (lt_7 42 rfl) rfl
theorem kw_1603 : Cond.fieldLink "java/lang/Throwable" 7 "java/lang/Throwable" "cause" "Ljava/lang/Throwable;" ∈ gw := gw_m (lt_7 44 rfl) rfl
theorem kw_1604 : Cond.fieldLink "java/lang/Throwable" 17 "java/lang/Throwable" "stackTrace" "[Ljava/lang/StackTraceElement;" ∈ gw := gw_m (lt_7 45 rfl) rfl
theorem kw_1605 : Cond.fieldLink "java/lang/Throwable" 24 "java/lang/Throwable" "suppressedExceptions" "Ljava/util/List;" ∈ gw := gw_m (lt_7 46 rfl) rfl
theorem kw_1610 : Cond.lays "java/util/NoSuchElementException" "java/lang/Throwable" "depth" "I" ∈ gw := gw_m (lt_7 51 rfl) rfl
theorem kw_1614 : Cond.methodLink "TimberValley" 381 ({ cls := "java/lang/Math", name := "floorDiv", desc := "(II)I" } : MethodName) ∈ gw := gw_m (lt_7 55 rfl) rfl
theorem kw_1615 : Cond.static ({ cls := "java/lang/Math", name := "floorDiv", desc := "(II)I" } : MethodName) ∈ gw := gw_m (lt_7 56 rfl) rfl
theorem kw_1616 : Cond.code ({ cls := "java/lang/Math", name := "floorDiv", desc := "(II)I" } : MethodName) prog_18_method_47_code 3 (Option.some FieldType.int) ∈ gw := gw_m (lt_7 57 rfl) rfl
theorem kw_1617 : Cond.methodLink "TimberValleyLaw" 222 ({ cls := "TimberValleyLaw", name := "each", desc := "(LTimberValley;II[J)I" } : MethodName) ∈ gw := gw_m (lt_7 58 rfl) rfl
theorem kw_1618 : Cond.static ({ cls := "TimberValleyLaw", name := "each", desc := "(LTimberValley;II[J)I" } : MethodName) ∈ gw := gw_m (lt_7 59 rfl) rfl
theorem kw_1619 : Cond.codeWith ({ cls := "TimberValleyLaw", name := "each", desc := "(LTimberValley;II[J)I" } : MethodName) method_4_code 5 (Option.some FieldType.int) [(0, 10, 13, 13)] ∈ gw := gw_m (lt_7 60 rfl) rfl
theorem kw_1620 : Cond.methodLink "TimberValleyLaw" 15 ({ cls := "TimberValley", name := "each", desc := "(II)I" } : MethodName) ∈ gw := gw_m (lt_7 61 rfl) rfl
theorem kw_1621 : Cond.instanceMethod ({ cls := "TimberValley", name := "each", desc := "(II)I" } : MethodName) ∈ gw := gw_m (lt_7 62 rfl) rfl
theorem kw_1622 : Cond.selects "TimberValley" ({ cls := "TimberValley", name := "each", desc := "(II)I" } : MethodName) ({ cls := "TimberValley", name := "each", desc := "(II)I" } : MethodName) ∈ gw := gw_m (lt_7 63 rfl) rfl
theorem kw_1623 : Cond.code ({ cls := "TimberValley", name := "each", desc := "(II)I" } : MethodName) prog_1_method_64_code 3 (Option.some FieldType.int) ∈ gw := gw_m (lt_7 64 rfl) rfl
theorem kw_1624 : Cond.methodLink "TimberValley" 465 ({ cls := "TimberValley$Cruises", name := "eighthsAt", desc := "(II)I" } : MethodName) ∈ gw := gw_m (lt_7 65 rfl) rfl
theorem kw_1625 : Cond.methodLink "TimberValleyLaw" 253 ({ cls := "TimberValleyLaw", name := "orderOf", desc := "(LTimberValley;II[J)I" } : MethodName) ∈ gw := gw_m (lt_7 66 rfl) rfl
theorem kw_1626 : Cond.static ({ cls := "TimberValleyLaw", name := "orderOf", desc := "(LTimberValley;II[J)I" } : MethodName) ∈ gw := gw_m (lt_7 67 rfl) rfl
theorem kw_1627 : Cond.codeWith ({ cls := "TimberValleyLaw", name := "orderOf", desc := "(LTimberValley;II[J)I" } : MethodName) method_5_code 5 (Option.some FieldType.int) [(0, 10, 13, 13)] ∈ gw := gw_m (lt_7 68 rfl) rfl
theorem kw_1628 : Cond.methodLink "TimberValleyLaw" 18 ({ cls := "TimberValley", name := "orderOf", desc := "(II)I" } : MethodName) ∈ gw := gw_m (lt_7 69 rfl) rfl
theorem kw_1629 : Cond.instanceMethod ({ cls := "TimberValley", name := "orderOf", desc := "(II)I" } : MethodName) ∈ gw := gw_m (lt_7 70 rfl) rfl
theorem kw_1630 : Cond.selects "TimberValley" ({ cls := "TimberValley", name := "orderOf", desc := "(II)I" } : MethodName) ({ cls := "TimberValley", name := "orderOf", desc := "(II)I" } : MethodName) ∈ gw := gw_m (lt_7 71 rfl) rfl
theorem kw_1631 : Cond.code ({ cls := "TimberValley", name := "orderOf", desc := "(II)I" } : MethodName) prog_1_method_52_code 4 (Option.some FieldType.int) ∈ gw := gw_m (lt_7 72 rfl) rfl
theorem kw_1632 : Cond.classLink "TimberValleyLaw" 22 "TimberValleyModel" ∈ gw := gw_m (lt_7 73 rfl) rfl
theorem kw_1633 : Cond.instantiable "TimberValleyModel" 103 ∈ gw := gw_m (lt_7 74 rfl) rfl
theorem kw_1634 : Cond.methodLink "TimberValleyLaw" 24 ({ cls := "TimberValleyModel", name := "<init>", desc := "()V" } : MethodName) ∈ gw := gw_m (lt_7 75 rfl) rfl
theorem kw_1635 : Cond.instanceMethod ({ cls := "TimberValleyModel", name := "<init>", desc := "()V" } : MethodName) ∈ gw := gw_m (lt_7 76 rfl) rfl
theorem kw_1636 : Cond.code ({ cls := "TimberValleyModel", name := "<init>", desc := "()V" } : MethodName) prog_14_method_1_code 2 (Option.none : Option FieldType) ∈ gw := gw_m (lt_7 77 rfl) rfl
theorem kw_1637 : Cond.methodLink "TimberValleyModel" 1 ({ cls := "java/lang/Object", name := "<init>", desc := "()V" } : MethodName) ∈ gw := gw_m (lt_7 78 rfl) rfl
theorem kw_1638 : Cond.fieldLink "TimberValleyModel" 235 "TimberValleyModel" "thrown" "I" ∈ gw := gw_m (lt_7 79 rfl) rfl
theorem kw_1639 : Cond.fieldLink "TimberValleyModel" 271 "TimberValleyModel" "now" "I" ∈ gw := gw_m (lt_7 80 rfl) rfl
theorem kw_1640 : Cond.fieldLink "TimberValleyModel" 7 "TimberValleyModel" "height" "[I" ∈ gw := gw_m (lt_7 81 rfl) rfl
theorem kw_1641 : Cond.fieldLink "TimberValleyModel" 13 "TimberValleyModel" "slash" "[I" ∈ gw := gw_m (lt_7 82 rfl) rfl
theorem kw_1642 : Cond.fieldLink "TimberValleyModel" 16 "TimberValleyModel" "stems" "[I" ∈ gw := gw_m (lt_7 83 rfl) rfl
theorem kw_1643 : Cond.fieldLink "TimberValleyModel" 19 "TimberValleyModel" "grow" "[I" ∈ gw := gw_m (lt_7 84 rfl) rfl
theorem kw_1644 : Cond.fieldLink "TimberValleyModel" 22 "TimberValleyModel" "taper" "[I" ∈ gw := gw_m (lt_7 85 rfl) rfl
theorem kw_1645 : Cond.fieldLink "TimberValleyModel" 268 "TimberValleyModel" "millCell" "I" ∈ gw := gw_m (lt_7 86 rfl) rfl
theorem kw_1646 : Cond.fieldLink "TimberValleyModel" 274 "TimberValleyModel" "tellings" "I" ∈ gw := gw_m (lt_7 87 rfl) rfl
theorem kw_1647 : Cond.fieldLink "TimberValleyModel" 25 "TimberValleyModel" "tellDay" "[I" ∈ gw := gw_m (lt_7 88 rfl) rfl
theorem kw_1648 : Cond.fieldLink "TimberValleyModel" 28 "TimberValleyModel" "tellSnow" "[I" ∈ gw := gw_m (lt_7 89 rfl) rfl
theorem kw_1649 : Cond.fieldLink "TimberValleyModel" 31 "TimberValleyModel" "tellWater" "[I" ∈ gw := gw_m (lt_7 90 rfl) rfl
theorem kw_1650 : Cond.fieldLink "TimberValleyModel" 34 "TimberValleyModel" "tellDry" "[I" ∈ gw := gw_m (lt_7 91 rfl) rfl
theorem kw_1651 : Cond.fieldLink "TimberValleyModel" 37 "TimberValleyModel" "price" "[I" ∈ gw := gw_m (lt_7 92 rfl) rfl
theorem kw_1652 : Cond.fieldLink "TimberValleyModel" 40 "TimberValleyModel" "pieces" "[I" ∈ gw := gw_m (lt_7 93 rfl) rfl
theorem kw_1653 : Cond.fieldLink "TimberValleyModel" 286 "TimberValleyModel" "pieceMany" "I" ∈ gw := gw_m (lt_7 94 rfl) rfl
theorem kw_1654 : Cond.fieldLink "TimberValleyModel" 43 "TimberValleyModel" "behind" "[I" ∈ gw := gw_m (lt_7 95 rfl) rfl
theorem kw_1655 : Cond.fieldLink "TimberValleyModel" 265 "TimberValleyModel" "logs" "I" ∈ gw := gw_m (lt_7 96 rfl) rfl
theorem kw_1656 : Cond.fieldLink "TimberValleyModel" 46 "TimberValleyModel" "logCell" "[I" ∈ gw := gw_m (lt_7 97 rfl) rfl
theorem kw_1657 : Cond.fieldLink "TimberValleyModel" 49 "TimberValleyModel" "logSort" "[I" ∈ gw := gw_m (lt_7 98 rfl) rfl
theorem kw_1658 : Cond.fieldLink "TimberValleyModel" 52 "TimberValleyModel" "logUnits" "[I" ∈ gw := gw_m (lt_7 99 rfl) rfl
theorem kw_1659 : Cond.fieldLink "TimberValleyModel" 55 "TimberValleyModel" "logWide" "[I" ∈ gw := gw_m (lt_7 100 rfl) rfl
theorem kw_1660 : Cond.fieldLink "TimberValleyModel" 58 "TimberValleyModel" "logDay" "[I" ∈ gw := gw_m (lt_7 101 rfl) rfl
theorem kw_1661 : Cond.fieldLink "TimberValleyModel" 61 "TimberValleyModel" "logBrand" "[I" ∈ gw := gw_m (lt_7 102 rfl) rfl
theorem kw_1662 : Cond.fieldLink "TimberValleyModel" 64 "TimberValleyModel" "logFault" "[I" ∈ gw := gw_m (lt_7 103 rfl) rfl
theorem kw_1663 : Cond.fieldLink "TimberValleyModel" 67 "TimberValleyModel" "logState" "[I" ∈ gw := gw_m (lt_7 104 rfl) rfl
theorem kw_1664 : Cond.fieldLink "TimberValleyModel" 70 "TimberValleyModel" "cameOn" "[I" ∈ gw := gw_m (lt_7 105 rfl) rfl
theorem kw_1665 : Cond.fieldLink "TimberValleyModel" 73 "TimberValleyModel" "changedOn" "[I" ∈ gw := gw_m (lt_7 106 rfl) rfl
theorem kw_1666 : Cond.fieldLink "TimberValleyModel" 76 "TimberValleyModel" "knownFrom" "[I" ∈ gw := gw_m (lt_7 107 rfl) rfl
theorem kw_1667 : Cond.fieldLink "TimberValleyModel" 79 "TimberValleyModel" "register" "[I" ∈ gw := gw_m (lt_7 108 rfl) rfl
theorem kw_1668 : Cond.fieldLink "TimberValleyModel" 82 "TimberValleyModel" "sumOne" "[I" ∈ gw := gw_m (lt_7 109 rfl) rfl
theorem kw_1669 : Cond.fieldLink "TimberValleyModel" 85 "TimberValleyModel" "sumTwo" "[I" ∈ gw := gw_m (lt_7 110 rfl) rfl
theorem kw_1670 : Cond.fieldLink "TimberValleyModel" 311 "TimberValleyModel" "found" "I" ∈ gw := gw_m (lt_7 111 rfl) rfl
theorem kw_1671 : Cond.fieldLink "TimberValleyModel" 421 "TimberValleyModel" "texts" "I" ∈ gw := gw_m (lt_7 112 rfl) rfl
theorem kw_1672 : Cond.fieldLink "TimberValleyModel" 88 "TimberValleyModel" "textFrom" "[I" ∈ gw := gw_m (lt_7 113 rfl) rfl
theorem kw_1673 : Cond.fieldLink "TimberValleyModel" 91 "TimberValleyModel" "textMany" "[I" ∈ gw := gw_m (lt_7 114 rfl) rfl
theorem kw_1674 : Cond.fieldLink "TimberValleyModel" 94 "TimberValleyModel" "sortOf" "[I" ∈ gw := gw_m (lt_7 115 rfl) rfl
theorem kw_1675 : Cond.fieldLink "TimberValleyModel" 97 "TimberValleyModel" "numberOf" "[I" ∈ gw := gw_m (lt_7 116 rfl) rfl
theorem kw_1676 : Cond.fieldLink "TimberValleyModel" 100 "TimberValleyModel" "terms" "[I" ∈ gw := gw_m (lt_7 117 rfl) rfl
theorem kw_1677 : Cond.fieldLink "TimberValleyModel" 103 "TimberValleyModel" "termNot" "[Z" ∈ gw := gw_m (lt_7 118 rfl) rfl
theorem kw_1678 : Cond.fieldLink "TimberValleyModel" 107 "TimberValleyModel" "termFact" "[I" ∈ gw := gw_m (lt_7 119 rfl) rfl
theorem kw_1679 : Cond.fieldLink "TimberValleyModel" 110 "TimberValleyModel" "termSign" "[I" ∈ gw := gw_m (lt_7 120 rfl) rfl
theorem kw_1680 : Cond.fieldLink "TimberValleyModel" 113 "TimberValleyModel" "termValue" "[I" ∈ gw := gw_m (lt_7 121 rfl) rfl
theorem kw_1681 : Cond.fieldLink "TimberValleyModel" 116 "TimberValleyModel" "tape" "[B" ∈ gw := gw_m (lt_7 122 rfl) rfl
theorem kw_1682 : Cond.fieldLink "TimberValleyModel" 320 "TimberValleyModel" "taped" "I" ∈ gw := gw_m (lt_7 123 rfl) rfl
theorem kw_1683 : Cond.fieldLink "TimberValleyModel" 348 "TimberValleyModel" "faultKind" "I" ∈ gw := gw_m (lt_7 124 rfl) rfl
theorem kw_1684 : Cond.fieldLink "TimberValleyModel" 120 "TimberValleyModel" "faultPlace" "I" ∈ gw := gw_m (lt_7 125 rfl) rfl
theorem kw_1685 : Cond.fieldLink "TimberValleyModel" 407 "TimberValleyModel" "reading" "I" ∈ gw := gw_m (lt_7 126 rfl) rfl
theorem kw_1686 : Cond.fieldLink "TimberValleyModel" 326 "TimberValleyModel" "from" "I" ∈ gw := gw_m (lt_7 127 rfl) rfl
theorem kw_1687 : Cond.fieldLink "TimberValleyModel" 323 "TimberValleyModel" "over" "I" ∈ gw := gw_m (lt_7 128 rfl) rfl
theorem kw_1688 : Cond.fieldLink "TimberValleyModel" 335 "TimberValleyModel" "value" "I" ∈ gw := gw_m (lt_7 129 rfl) rfl
theorem kw_1689 : Cond.fieldLink "TimberValleyModel" 332 "TimberValleyModel" "token" "I" ∈ gw := gw_m (lt_7 130 rfl) rfl
theorem kw_1690 : Cond.fieldLink "TimberValleyModel" 124 "TimberValleyModel" "facts" "[I" ∈ gw := gw_m (lt_7 131 rfl) rfl
theorem kw_1691 : Cond.fieldLink "TimberValleyModel" 462 "TimberValleyModel" "ways" "I" ∈ gw := gw_m (lt_7 132 rfl) rfl
theorem kw_1692 : Cond.fieldLink "TimberValleyModel" 127 "TimberValleyModel" "wayKind" "[I" ∈ gw := gw_m (lt_7 133 rfl) rfl
theorem kw_1693 : Cond.fieldLink "TimberValleyModel" 130 "TimberValleyModel" "wayFrom" "[I" ∈ gw := gw_m (lt_7 134 rfl) rfl
theorem kw_1694 : Cond.fieldLink "TimberValleyModel" 133 "TimberValleyModel" "wayTo" "[I" ∈ gw := gw_m (lt_7 135 rfl) rfl
theorem kw_1695 : Cond.fieldLink "TimberValleyModel" 136 "TimberValleyModel" "isLaid" "[Z" ∈ gw := gw_m (lt_7 136 rfl) rfl
theorem kw_1696 : Cond.fieldLink "TimberValleyModel" 139 "TimberValleyModel" "damOn" "[I" ∈ gw := gw_m (lt_7 137 rfl) rfl
theorem kw_1697 : Cond.fieldLink "TimberValleyModel" 468 "TimberValleyModel" "stored" "I" ∈ gw := gw_m (lt_7 138 rfl) rfl
theorem kw_1698 : Cond.fieldLink "TimberValleyModel" 486 "TimberValleyModel" "crews" "I" ∈ gw := gw_m (lt_7 139 rfl) rfl
theorem kw_1699 : Cond.fieldLink "TimberValleyModel" 142 "TimberValleyModel" "brandOf" "[I" ∈ gw := gw_m (lt_7 140 rfl) rfl
theorem kw_1700 : Cond.fieldLink "TimberValleyModel" 145 "TimberValleyModel" "earned" "[I" ∈ gw := gw_m (lt_7 141 rfl) rfl
theorem kw_1701 : Cond.fieldLink "TimberValleyModel" 148 "TimberValleyModel" "owes" "[I" ∈ gw := gw_m (lt_7 142 rfl) rfl
theorem kw_1702 : Cond.fieldLink "TimberValleyModel" 151 "TimberValleyModel" "paid" "[I" ∈ gw := gw_m (lt_7 143 rfl) rfl
theorem kw_1703 : Cond.fieldLink "TimberValleyModel" 154 "TimberValleyModel" "hasLeft" "[Z" ∈ gw := gw_m (lt_7 144 rfl) rfl
theorem kw_1704 : Cond.fieldLink "TimberValleyModel" 490 "TimberValleyModel" "lease" "I" ∈ gw := gw_m (lt_7 145 rfl) rfl
theorem kw_1705 : Cond.fieldLink "TimberValleyModel" 500 "TimberValleyModel" "founds" "I" ∈ gw := gw_m (lt_7 146 rfl) rfl
theorem kw_1706 : Cond.fieldLink "TimberValleyModel" 157 "TimberValleyModel" "foundBy" "[I" ∈ gw := gw_m (lt_7 147 rfl) rfl
theorem kw_1707 : Cond.fieldLink "TimberValleyModel" 160 "TimberValleyModel" "foundLog" "[I" ∈ gw := gw_m (lt_7 148 rfl) rfl
theorem kw_1708 : Cond.fieldLink "TimberValleyModel" 163 "TimberValleyModel" "foundWhat" "[I" ∈ gw := gw_m (lt_7 149 rfl) rfl
theorem kw_1709 : Cond.fieldLink "TimberValleyModel" 508 "TimberValleyModel" "orders" "I" ∈ gw := gw_m (lt_7 150 rfl) rfl
theorem kw_1710 : Cond.fieldLink "TimberValleyModel" 166 "TimberValleyModel" "thick" "[I" ∈ gw := gw_m (lt_7 151 rfl) rfl
theorem kw_1711 : Cond.fieldLink "TimberValleyModel" 169 "TimberValleyModel" "leastUnits" "[I" ∈ gw := gw_m (lt_7 152 rfl) rfl
theorem kw_1712 : Cond.fieldLink "TimberValleyModel" 172 "TimberValleyModel" "lacks" "[I" ∈ gw := gw_m (lt_7 153 rfl) rfl
theorem kw_1713 : Cond.fieldLink "TimberValleyModel" 175 "TimberValleyModel" "boardPrice" "[I" ∈ gw := gw_m (lt_7 154 rfl) rfl
theorem kw_1714 : Cond.fieldLink "TimberValleyModel" 178 "TimberValleyModel" "ship" "[I" ∈ gw := gw_m (lt_7 155 rfl) rfl
theorem kw_1715 : Cond.fieldLink "TimberValleyModel" 181 "TimberValleyModel" "metOn" "[I" ∈ gw := gw_m (lt_7 156 rfl) rfl
theorem kw_1716 : Cond.fieldLink "TimberValleyModel" 525 "TimberValleyModel" "stock" "I" ∈ gw := gw_m (lt_7 157 rfl) rfl
theorem kw_1717 : Cond.fieldLink "TimberValleyModel" 184 "TimberValleyModel" "brings" "[I" ∈ gw := gw_m (lt_7 158 rfl) rfl
theorem kw_1718 : Cond.fieldLink "TimberValleyModel" 187 "TimberValleyModel" "begins" "[I" ∈ gw := gw_m (lt_7 159 rfl) rfl
theorem kw_1719 : Cond.fieldLink "TimberValleyModel" 190 "TimberValleyModel" "burns" "[I" ∈ gw := gw_m (lt_7 160 rfl) rfl
theorem kw_1720 : Cond.fieldLink "TimberValleyModel" 537 "TimberValleyModel" "spurs" "I" ∈ gw := gw_m (lt_7 161 rfl) rfl
theorem kw_1721 : Cond.fieldLink "TimberValleyModel" 193 "TimberValleyModel" "spurCells" "[I" ∈ gw := gw_m (lt_7 162 rfl) rfl
theorem kw_1722 : Cond.fieldLink "TimberValleyModel" 196 "TimberValleyModel" "spurIron" "[I" ∈ gw := gw_m (lt_7 163 rfl) rfl
theorem kw_1723 : Cond.fieldLink "TimberValleyModel" 199 "TimberValleyModel" "spurCost" "[I" ∈ gw := gw_m (lt_7 164 rfl) rfl
theorem kw_1724 : Cond.fieldLink "TimberValleyModel" 202 "TimberValleyModel" "askedFor" "[I" ∈ gw := gw_m (lt_7 165 rfl) rfl
theorem kw_1725 : Cond.fieldLink "TimberValleyModel" 205 "TimberValleyModel" "toCome" "[I" ∈ gw := gw_m (lt_7 166 rfl) rfl
theorem kw_1726 : Cond.fieldLink "TimberValleyModel" 208 "TimberValleyModel" "hauls" "[I" ∈ gw := gw_m (lt_7 167 rfl) rfl
theorem kw_1727 : Cond.fieldLink "TimberValleyModel" 211 "TimberValleyModel" "layings" "[I" ∈ gw := gw_m (lt_7 168 rfl) rfl
theorem kw_1728 : Cond.fieldLink "TimberValleyModel" 214 "TimberValleyModel" "yields" "[I" ∈ gw := gw_m (lt_7 169 rfl) rfl
theorem kw_1729 : Cond.fieldLink "TimberValleyModel" 217 "TimberValleyModel" "cutOld" "[I" ∈ gw := gw_m (lt_7 170 rfl) rfl
theorem kw_1730 : Cond.fieldLink "TimberValleyModel" 220 "TimberValleyModel" "cutYoung" "[I" ∈ gw := gw_m (lt_7 171 rfl) rfl
theorem kw_1731 : Cond.fieldLink "TimberValleyModel" 584 "TimberValleyModel" "hasCuts" "Z" ∈ gw := gw_m (lt_7 172 rfl) rfl
theorem kw_1732 : Cond.fieldLink "TimberValleyModel" 571 "TimberValleyModel" "areas" "I" ∈ gw := gw_m (lt_7 173 rfl) rfl
theorem kw_1733 : Cond.fieldLink "TimberValleyModel" 562 "TimberValleyModel" "leastYield" "I" ∈ gw := gw_m (lt_7 174 rfl) rfl
theorem kw_1734 : Cond.fieldLink "TimberValleyModel" 565 "TimberValleyModel" "mostYield" "I" ∈ gw := gw_m (lt_7 175 rfl) rfl
theorem kw_1735 : Cond.fieldLink "TimberValleyModel" 223 "TimberValleyModel" "rowMany" "[I" ∈ gw := gw_m (lt_7 176 rfl) rfl
theorem kw_1736 : Cond.fieldLink "TimberValleyModel" 226 "TimberValleyModel" "isFloats" "[Z" ∈ gw := gw_m (lt_7 177 rfl) rfl
theorem kw_1737 : Cond.fieldLink "TimberValleyModel" 229 "TimberValleyModel" "eighths" "[I" ∈ gw := gw_m (lt_7 178 rfl) rfl
theorem kw_1738 : Cond.fieldLink "TimberValleyModel" 232 "TimberValleyModel" "isHole" "[Z" ∈ gw := gw_m (lt_7 179 rfl) rfl
theorem kw_1739 : Cond.fieldLink "TimberValleyModel" 592 "TimberValleyModel" "sumNear" "I" ∈ gw := gw_m (lt_7 180 rfl) rfl
theorem kw_1740 : Cond.fieldLink "TimberValleyModel" 595 "TimberValleyModel" "manyNear" "I" ∈ gw := gw_m (lt_7 181 rfl) rfl
theorem kw_1741 : Cond.lays "TimberValleyModel" "TimberValleyModel" "thrown" "I" ∈ gw := gw_m (lt_7 182 rfl) rfl
theorem kw_1743 : Cond.lays "TimberValleyModel" "TimberValleyModel" "now" "I" ∈ gw := gw_m (lt_7 184 rfl) rfl
theorem kw_1745 : Cond.laysFinal "TimberValleyModel" "TimberValleyModel" "height" "[I" ∈ gw := gw_m (lt_7 186 rfl) rfl
theorem kw_1747 : Cond.laysFinal "TimberValleyModel" "TimberValleyModel" "slash" "[I" ∈ gw := gw_m (lt_7 188 rfl) rfl
theorem kw_1749 : Cond.laysFinal "TimberValleyModel" "TimberValleyModel" "stems" "[I" ∈ gw := gw_m (lt_7 190 rfl) rfl
theorem kw_1751 : Cond.laysFinal "TimberValleyModel" "TimberValleyModel" "grow" "[I" ∈ gw := gw_m (lt_7 192 rfl) rfl
theorem kw_1753 : Cond.laysFinal "TimberValleyModel" "TimberValleyModel" "taper" "[I" ∈ gw := gw_m (lt_7 194 rfl) rfl
theorem kw_1755 : Cond.lays "TimberValleyModel" "TimberValleyModel" "millCell" "I" ∈ gw := gw_m (lt_7 196 rfl) rfl
theorem kw_1757 : Cond.lays "TimberValleyModel" "TimberValleyModel" "tellings" "I" ∈ gw := gw_m (lt_7 198 rfl) rfl
theorem kw_1759 : Cond.laysFinal "TimberValleyModel" "TimberValleyModel" "tellDay" "[I" ∈ gw := gw_m (lt_7 200 rfl) rfl
theorem kw_1761 : Cond.laysFinal "TimberValleyModel" "TimberValleyModel" "tellSnow" "[I" ∈ gw := gw_m (lt_7 202 rfl) rfl
theorem kw_1763 : Cond.laysFinal "TimberValleyModel" "TimberValleyModel" "tellWater" "[I" ∈ gw := gw_m (lt_7 204 rfl) rfl
theorem kw_1765 : Cond.laysFinal "TimberValleyModel" "TimberValleyModel" "tellDry" "[I" ∈ gw := gw_m (lt_7 206 rfl) rfl
theorem kw_1767 : Cond.laysFinal "TimberValleyModel" "TimberValleyModel" "price" "[I" ∈ gw := gw_m (lt_7 208 rfl) rfl
theorem kw_1769 : Cond.laysFinal "TimberValleyModel" "TimberValleyModel" "pieces" "[I" ∈ gw := gw_m (lt_7 210 rfl) rfl
theorem kw_1771 : Cond.lays "TimberValleyModel" "TimberValleyModel" "pieceMany" "I" ∈ gw := gw_m (lt_7 212 rfl) rfl
theorem kw_1773 : Cond.laysFinal "TimberValleyModel" "TimberValleyModel" "behind" "[I" ∈ gw := gw_m (lt_7 214 rfl) rfl
theorem kw_1775 : Cond.lays "TimberValleyModel" "TimberValleyModel" "logs" "I" ∈ gw := gw_m (lt_7 216 rfl) rfl
theorem kw_1777 : Cond.laysFinal "TimberValleyModel" "TimberValleyModel" "logCell" "[I" ∈ gw := gw_m (lt_7 218 rfl) rfl
theorem kw_1779 : Cond.laysFinal "TimberValleyModel" "TimberValleyModel" "logSort" "[I" ∈ gw := gw_m (lt_7 220 rfl) rfl
theorem kw_1781 : Cond.laysFinal "TimberValleyModel" "TimberValleyModel" "logUnits" "[I" ∈ gw := gw_m (lt_7 222 rfl) rfl
theorem kw_1783 : Cond.laysFinal "TimberValleyModel" "TimberValleyModel" "logWide" "[I" ∈ gw := gw_m (lt_7 224 rfl) rfl
theorem kw_1785 : Cond.laysFinal "TimberValleyModel" "TimberValleyModel" "logDay" "[I" ∈ gw := gw_m (lt_7 226 rfl) rfl
theorem kw_1787 : Cond.laysFinal "TimberValleyModel" "TimberValleyModel" "logBrand" "[I" ∈ gw := gw_m (lt_7 228 rfl) rfl
theorem kw_1789 : Cond.laysFinal "TimberValleyModel" "TimberValleyModel" "logFault" "[I" ∈ gw := gw_m (lt_7 230 rfl) rfl
theorem kw_1791 : Cond.laysFinal "TimberValleyModel" "TimberValleyModel" "logState" "[I" ∈ gw := gw_m (lt_7 232 rfl) rfl
theorem kw_1793 : Cond.laysFinal "TimberValleyModel" "TimberValleyModel" "cameOn" "[I" ∈ gw := gw_m (lt_7 234 rfl) rfl
theorem kw_1795 : Cond.laysFinal "TimberValleyModel" "TimberValleyModel" "changedOn" "[I" ∈ gw := gw_m (lt_7 236 rfl) rfl
theorem kw_1797 : Cond.laysFinal "TimberValleyModel" "TimberValleyModel" "knownFrom" "[I" ∈ gw := gw_m (lt_7 238 rfl) rfl
theorem kw_1799 : Cond.laysFinal "TimberValleyModel" "TimberValleyModel" "register" "[I" ∈ gw := gw_m (lt_8 0 rfl) rfl
theorem kw_1801 : Cond.laysFinal "TimberValleyModel" "TimberValleyModel" "sumOne" "[I" ∈ gw := gw_m (lt_8 2 rfl) rfl
theorem kw_1803 : Cond.laysFinal "TimberValleyModel" "TimberValleyModel" "sumTwo" "[I" ∈ gw := gw_m (lt_8 4 rfl) rfl
theorem kw_1805 : Cond.lays "TimberValleyModel" "TimberValleyModel" "found" "I" ∈ gw := gw_m (lt_8 6 rfl) rfl
theorem kw_1807 : Cond.lays "TimberValleyModel" "TimberValleyModel" "texts" "I" ∈ gw := gw_m (lt_8 8 rfl) rfl
theorem kw_1809 : Cond.laysFinal "TimberValleyModel" "TimberValleyModel" "textFrom" "[I" ∈ gw := gw_m (lt_8 10 rfl) rfl
theorem kw_1811 : Cond.laysFinal "TimberValleyModel" "TimberValleyModel" "textMany" "[I" ∈ gw := gw_m (lt_8 12 rfl) rfl
theorem kw_1813 : Cond.laysFinal "TimberValleyModel" "TimberValleyModel" "sortOf" "[I" ∈ gw := gw_m (lt_8 14 rfl) rfl
theorem kw_1815 : Cond.laysFinal "TimberValleyModel" "TimberValleyModel" "numberOf" "[I" ∈ gw := gw_m (lt_8 16 rfl) rfl
theorem kw_1817 : Cond.laysFinal "TimberValleyModel" "TimberValleyModel" "terms" "[I" ∈ gw := gw_m (lt_8 18 rfl) rfl
theorem kw_1819 : Cond.laysFinal "TimberValleyModel" "TimberValleyModel" "termNot" "[Z" ∈ gw := gw_m (lt_8 20 rfl) rfl
theorem kw_1821 : Cond.laysFinal "TimberValleyModel" "TimberValleyModel" "termFact" "[I" ∈ gw := gw_m (lt_8 22 rfl) rfl
theorem kw_1823 : Cond.laysFinal "TimberValleyModel" "TimberValleyModel" "termSign" "[I" ∈ gw := gw_m (lt_8 24 rfl) rfl
theorem kw_1825 : Cond.laysFinal "TimberValleyModel" "TimberValleyModel" "termValue" "[I" ∈ gw := gw_m (lt_8 26 rfl) rfl
theorem kw_1827 : Cond.laysFinal "TimberValleyModel" "TimberValleyModel" "tape" "[B" ∈ gw := gw_m (lt_8 28 rfl) rfl
theorem kw_1829 : Cond.lays "TimberValleyModel" "TimberValleyModel" "taped" "I" ∈ gw := gw_m (lt_8 30 rfl) rfl
theorem kw_1831 : Cond.lays "TimberValleyModel" "TimberValleyModel" "faultKind" "I" ∈ gw := gw_m (lt_8 32 rfl) rfl
theorem kw_1833 : Cond.lays "TimberValleyModel" "TimberValleyModel" "faultPlace" "I" ∈ gw := gw_m (lt_8 34 rfl) rfl
theorem kw_1835 : Cond.lays "TimberValleyModel" "TimberValleyModel" "reading" "I" ∈ gw := gw_m (lt_8 36 rfl) rfl
theorem kw_1837 : Cond.lays "TimberValleyModel" "TimberValleyModel" "from" "I" ∈ gw := gw_m (lt_8 38 rfl) rfl
theorem kw_1839 : Cond.lays "TimberValleyModel" "TimberValleyModel" "over" "I" ∈ gw := gw_m (lt_8 40 rfl) rfl
theorem kw_1841 : Cond.lays "TimberValleyModel" "TimberValleyModel" "value" "I" ∈ gw := gw_m (lt_8 42 rfl) rfl
theorem kw_1843 : Cond.lays "TimberValleyModel" "TimberValleyModel" "token" "I" ∈ gw := gw_m (lt_8 44 rfl) rfl
theorem kw_1845 : Cond.laysFinal "TimberValleyModel" "TimberValleyModel" "facts" "[I" ∈ gw := gw_m (lt_8 46 rfl) rfl
theorem kw_1847 : Cond.lays "TimberValleyModel" "TimberValleyModel" "ways" "I" ∈ gw := gw_m (lt_8 48 rfl) rfl
theorem kw_1849 : Cond.laysFinal "TimberValleyModel" "TimberValleyModel" "wayKind" "[I" ∈ gw := gw_m (lt_8 50 rfl) rfl
theorem kw_1851 : Cond.laysFinal "TimberValleyModel" "TimberValleyModel" "wayFrom" "[I" ∈ gw := gw_m (lt_8 52 rfl) rfl
theorem kw_1853 : Cond.laysFinal "TimberValleyModel" "TimberValleyModel" "wayTo" "[I" ∈ gw := gw_m (lt_8 54 rfl) rfl
theorem kw_1855 : Cond.laysFinal "TimberValleyModel" "TimberValleyModel" "isLaid" "[Z" ∈ gw := gw_m (lt_8 56 rfl) rfl
theorem kw_1857 : Cond.laysFinal "TimberValleyModel" "TimberValleyModel" "damOn" "[I" ∈ gw := gw_m (lt_8 58 rfl) rfl
theorem kw_1859 : Cond.lays "TimberValleyModel" "TimberValleyModel" "stored" "I" ∈ gw := gw_m (lt_8 60 rfl) rfl
theorem kw_1861 : Cond.lays "TimberValleyModel" "TimberValleyModel" "crews" "I" ∈ gw := gw_m (lt_8 62 rfl) rfl
theorem kw_1863 : Cond.laysFinal "TimberValleyModel" "TimberValleyModel" "brandOf" "[I" ∈ gw := gw_m (lt_8 64 rfl) rfl
theorem kw_1865 : Cond.laysFinal "TimberValleyModel" "TimberValleyModel" "earned" "[I" ∈ gw := gw_m (lt_8 66 rfl) rfl
theorem kw_1867 : Cond.laysFinal "TimberValleyModel" "TimberValleyModel" "owes" "[I" ∈ gw := gw_m (lt_8 68 rfl) rfl
theorem kw_1869 : Cond.laysFinal "TimberValleyModel" "TimberValleyModel" "paid" "[I" ∈ gw := gw_m (lt_8 70 rfl) rfl
theorem kw_1871 : Cond.laysFinal "TimberValleyModel" "TimberValleyModel" "hasLeft" "[Z" ∈ gw := gw_m (lt_8 72 rfl) rfl
theorem kw_1873 : Cond.lays "TimberValleyModel" "TimberValleyModel" "lease" "I" ∈ gw := gw_m (lt_8 74 rfl) rfl
theorem kw_1875 : Cond.lays "TimberValleyModel" "TimberValleyModel" "founds" "I" ∈ gw := gw_m (lt_8 76 rfl) rfl
theorem kw_1877 : Cond.laysFinal "TimberValleyModel" "TimberValleyModel" "foundBy" "[I" ∈ gw := gw_m (lt_8 78 rfl) rfl
theorem kw_1879 : Cond.laysFinal "TimberValleyModel" "TimberValleyModel" "foundLog" "[I" ∈ gw := gw_m (lt_8 80 rfl) rfl
theorem kw_1881 : Cond.laysFinal "TimberValleyModel" "TimberValleyModel" "foundWhat" "[I" ∈ gw := gw_m (lt_8 82 rfl) rfl
theorem kw_1883 : Cond.lays "TimberValleyModel" "TimberValleyModel" "orders" "I" ∈ gw := gw_m (lt_8 84 rfl) rfl
theorem kw_1885 : Cond.laysFinal "TimberValleyModel" "TimberValleyModel" "thick" "[I" ∈ gw := gw_m (lt_8 86 rfl) rfl
theorem kw_1887 : Cond.laysFinal "TimberValleyModel" "TimberValleyModel" "leastUnits" "[I" ∈ gw := gw_m (lt_8 88 rfl) rfl
theorem kw_1889 : Cond.laysFinal "TimberValleyModel" "TimberValleyModel" "lacks" "[I" ∈ gw := gw_m (lt_8 90 rfl) rfl
theorem kw_1891 : Cond.laysFinal "TimberValleyModel" "TimberValleyModel" "boardPrice" "[I" ∈ gw := gw_m (lt_8 92 rfl) rfl
theorem kw_1893 : Cond.laysFinal "TimberValleyModel" "TimberValleyModel" "ship" "[I" ∈ gw := gw_m (lt_8 94 rfl) rfl
theorem kw_1895 : Cond.laysFinal "TimberValleyModel" "TimberValleyModel" "metOn" "[I" ∈ gw := gw_m (lt_8 96 rfl) rfl
theorem kw_1897 : Cond.lays "TimberValleyModel" "TimberValleyModel" "stock" "I" ∈ gw := gw_m (lt_8 98 rfl) rfl
theorem kw_1899 : Cond.laysFinal "TimberValleyModel" "TimberValleyModel" "brings" "[I" ∈ gw := gw_m (lt_8 100 rfl) rfl
theorem kw_1901 : Cond.laysFinal "TimberValleyModel" "TimberValleyModel" "begins" "[I" ∈ gw := gw_m (lt_8 102 rfl) rfl
theorem kw_1903 : Cond.laysFinal "TimberValleyModel" "TimberValleyModel" "burns" "[I" ∈ gw := gw_m (lt_8 104 rfl) rfl
theorem kw_1905 : Cond.lays "TimberValleyModel" "TimberValleyModel" "spurs" "I" ∈ gw := gw_m (lt_8 106 rfl) rfl
theorem kw_1907 : Cond.laysFinal "TimberValleyModel" "TimberValleyModel" "spurCells" "[I" ∈ gw := gw_m (lt_8 108 rfl) rfl
theorem kw_1909 : Cond.laysFinal "TimberValleyModel" "TimberValleyModel" "spurIron" "[I" ∈ gw := gw_m (lt_8 110 rfl) rfl
theorem kw_1911 : Cond.laysFinal "TimberValleyModel" "TimberValleyModel" "spurCost" "[I" ∈ gw := gw_m (lt_8 112 rfl) rfl
theorem kw_1913 : Cond.laysFinal "TimberValleyModel" "TimberValleyModel" "askedFor" "[I" ∈ gw := gw_m (lt_8 114 rfl) rfl
theorem kw_1915 : Cond.laysFinal "TimberValleyModel" "TimberValleyModel" "toCome" "[I" ∈ gw := gw_m (lt_8 116 rfl) rfl
theorem kw_1917 : Cond.laysFinal "TimberValleyModel" "TimberValleyModel" "hauls" "[I" ∈ gw := gw_m (lt_8 118 rfl) rfl
theorem kw_1919 : Cond.laysFinal "TimberValleyModel" "TimberValleyModel" "layings" "[I" ∈ gw := gw_m (lt_8 120 rfl) rfl
theorem kw_1921 : Cond.laysFinal "TimberValleyModel" "TimberValleyModel" "yields" "[I" ∈ gw := gw_m (lt_8 122 rfl) rfl
theorem kw_1923 : Cond.laysFinal "TimberValleyModel" "TimberValleyModel" "cutOld" "[I" ∈ gw := gw_m (lt_8 124 rfl) rfl
theorem kw_1925 : Cond.laysFinal "TimberValleyModel" "TimberValleyModel" "cutYoung" "[I" ∈ gw := gw_m (lt_8 126 rfl) rfl
theorem kw_1927 : Cond.lays "TimberValleyModel" "TimberValleyModel" "hasCuts" "Z" ∈ gw := gw_m (lt_8 128 rfl) rfl
theorem kw_1929 : Cond.lays "TimberValleyModel" "TimberValleyModel" "areas" "I" ∈ gw := gw_m (lt_8 130 rfl) rfl
theorem kw_1931 : Cond.lays "TimberValleyModel" "TimberValleyModel" "leastYield" "I" ∈ gw := gw_m (lt_8 132 rfl) rfl
theorem kw_1933 : Cond.lays "TimberValleyModel" "TimberValleyModel" "mostYield" "I" ∈ gw := gw_m (lt_8 134 rfl) rfl
theorem kw_1935 : Cond.laysFinal "TimberValleyModel" "TimberValleyModel" "rowMany" "[I" ∈ gw := gw_m (lt_8 136 rfl) rfl
theorem kw_1937 : Cond.laysFinal "TimberValleyModel" "TimberValleyModel" "isFloats" "[Z" ∈ gw := gw_m (lt_8 138 rfl) rfl
theorem kw_1939 : Cond.laysFinal "TimberValleyModel" "TimberValleyModel" "eighths" "[I" ∈ gw := gw_m (lt_8 140 rfl) rfl
theorem kw_1941 : Cond.laysFinal "TimberValleyModel" "TimberValleyModel" "isHole" "[Z" ∈ gw := gw_m (lt_8 142 rfl) rfl
theorem kw_1943 : Cond.lays "TimberValleyModel" "TimberValleyModel" "sumNear" "I" ∈ gw := gw_m (lt_8 144 rfl) rfl
theorem kw_1945 : Cond.lays "TimberValleyModel" "TimberValleyModel" "manyNear" "I" ∈ gw := gw_m (lt_8 146 rfl) rfl
theorem kw_1948 : Cond.methodLink "TimberValleyLaw" 161 ({ cls := "TimberValleyModel", name := "thrown", desc := "()I" } : MethodName) ∈ gw := gw_m (lt_8 149 rfl) rfl
theorem kw_1949 : Cond.instanceMethod ({ cls := "TimberValleyModel", name := "thrown", desc := "()I" } : MethodName) ∈ gw := gw_m (lt_8 150 rfl) rfl
theorem kw_1950 : Cond.selects "TimberValleyModel" ({ cls := "TimberValleyModel", name := "thrown", desc := "()I" } : MethodName) ({ cls := "TimberValleyModel", name := "thrown", desc := "()I" } : MethodName) ∈ gw := gw_m (lt_8 151 rfl) rfl
theorem kw_1951 : Cond.code ({ cls := "TimberValleyModel", name := "thrown", desc := "()I" } : MethodName) prog_14_method_2_code 1 (Option.some FieldType.int) ∈ gw := gw_m (lt_8 152 rfl) rfl
theorem kw_1952 : Cond.methodLink "TimberValleyLaw" 29 ({ cls := "TimberValleyModel", name := "cell", desc := "(II)Z" } : MethodName) ∈ gw := gw_m (lt_8 153 rfl) rfl
theorem kw_1953 : Cond.instanceMethod ({ cls := "TimberValleyModel", name := "cell", desc := "(II)Z" } : MethodName) ∈ gw := gw_m (lt_8 154 rfl) rfl
theorem kw_1954 : Cond.selects "TimberValleyModel" ({ cls := "TimberValleyModel", name := "cell", desc := "(II)Z" } : MethodName) ({ cls := "TimberValleyModel", name := "cell", desc := "(II)Z" } : MethodName) ∈ gw := gw_m (lt_8 155 rfl) rfl
theorem kw_1955 : Cond.code ({ cls := "TimberValleyModel", name := "cell", desc := "(II)Z" } : MethodName) prog_14_method_11_code 3 (Option.some FieldType.boolean) ∈ gw := gw_m (lt_8 156 rfl) rfl
theorem kw_1956 : Cond.methodLink "TimberValleyModel" 253 ({ cls := "TimberValleyModel", name := "isCell", desc := "(I)Z" } : MethodName) ∈ gw := gw_m (lt_8 157 rfl) rfl
theorem kw_1957 : Cond.static ({ cls := "TimberValleyModel", name := "isCell", desc := "(I)Z" } : MethodName) ∈ gw := gw_m (lt_8 158 rfl) rfl
theorem kw_1958 : Cond.code ({ cls := "TimberValleyModel", name := "isCell", desc := "(I)Z" } : MethodName) prog_14_method_4_code 1 (Option.some FieldType.boolean) ∈ gw := gw_m (lt_8 159 rfl) rfl
theorem kw_1959 : Cond.methodLink "TimberValleyModel" 238 ({ cls := "TimberValleyModel", name := "within", desc := "(III)Z" } : MethodName) ∈ gw := gw_m (lt_8 160 rfl) rfl
theorem kw_1960 : Cond.static ({ cls := "TimberValleyModel", name := "within", desc := "(III)Z" } : MethodName) ∈ gw := gw_m (lt_8 161 rfl) rfl
theorem kw_1961 : Cond.code ({ cls := "TimberValleyModel", name := "within", desc := "(III)Z" } : MethodName) prog_14_method_3_code 3 (Option.some FieldType.boolean) ∈ gw := gw_m (lt_8 162 rfl) rfl
theorem kw_1962 : Cond.methodLink "TimberValleyLaw" 34 ({ cls := "TimberValleyModel", name := "stand", desc := "(IIII)Z" } : MethodName) ∈ gw := gw_m (lt_8 163 rfl) rfl
theorem kw_1963 : Cond.instanceMethod ({ cls := "TimberValleyModel", name := "stand", desc := "(IIII)Z" } : MethodName) ∈ gw := gw_m (lt_8 164 rfl) rfl
theorem kw_1964 : Cond.selects "TimberValleyModel" ({ cls := "TimberValleyModel", name := "stand", desc := "(IIII)Z" } : MethodName) ({ cls := "TimberValleyModel", name := "stand", desc := "(IIII)Z" } : MethodName) ∈ gw := gw_m (lt_8 165 rfl) rfl
theorem kw_1965 : Cond.code ({ cls := "TimberValleyModel", name := "stand", desc := "(IIII)Z" } : MethodName) prog_14_method_12_code 5 (Option.some FieldType.boolean) ∈ gw := gw_m (lt_8 166 rfl) rfl
theorem kw_1966 : Cond.methodLink "TimberValleyModel" 257 ({ cls := "TimberValleyModel", name := "isStem", desc := "(II)Z" } : MethodName) ∈ gw := gw_m (lt_8 167 rfl) rfl
theorem kw_1967 : Cond.static ({ cls := "TimberValleyModel", name := "isStem", desc := "(II)Z" } : MethodName) ∈ gw := gw_m (lt_8 168 rfl) rfl
theorem kw_1968 : Cond.code ({ cls := "TimberValleyModel", name := "isStem", desc := "(II)Z" } : MethodName) prog_14_method_10_code 2 (Option.some FieldType.boolean) ∈ gw := gw_m (lt_8 169 rfl) rfl
theorem kw_1969 : Cond.methodLink "TimberValleyModel" 261 ({ cls := "TimberValleyModel", name := "stemAt", desc := "(III)I" } : MethodName) ∈ gw := gw_m (lt_8 170 rfl) rfl
theorem kw_1970 : Cond.static ({ cls := "TimberValleyModel", name := "stemAt", desc := "(III)I" } : MethodName) ∈ gw := gw_m (lt_8 171 rfl) rfl
theorem kw_1971 : Cond.code ({ cls := "TimberValleyModel", name := "stemAt", desc := "(III)I" } : MethodName) prog_14_method_9_code 3 (Option.some FieldType.int) ∈ gw := gw_m (lt_8 172 rfl) rfl
theorem kw_1972 : Cond.methodLink "TimberValleyLaw" 39 ({ cls := "TimberValleyModel", name := "sort", desc := "(III)Z" } : MethodName) ∈ gw := gw_m (lt_8 173 rfl) rfl
theorem kw_1973 : Cond.instanceMethod ({ cls := "TimberValleyModel", name := "sort", desc := "(III)Z" } : MethodName) ∈ gw := gw_m (lt_8 174 rfl) rfl
theorem kw_1974 : Cond.selects "TimberValleyModel" ({ cls := "TimberValleyModel", name := "sort", desc := "(III)Z" } : MethodName) ({ cls := "TimberValleyModel", name := "sort", desc := "(III)Z" } : MethodName) ∈ gw := gw_m (lt_8 175 rfl) rfl
theorem kw_1975 : Cond.code ({ cls := "TimberValleyModel", name := "sort", desc := "(III)Z" } : MethodName) prog_14_method_13_code 4 (Option.some FieldType.boolean) ∈ gw := gw_m (lt_8 176 rfl) rfl
theorem kw_1976 : Cond.methodLink "TimberValleyLaw" 44 ({ cls := "TimberValleyModel", name := "mill", desc := "(I)Z" } : MethodName) ∈ gw := gw_m (lt_8 177 rfl) rfl
theorem kw_1977 : Cond.instanceMethod ({ cls := "TimberValleyModel", name := "mill", desc := "(I)Z" } : MethodName) ∈ gw := gw_m (lt_8 178 rfl) rfl
theorem kw_1978 : Cond.selects "TimberValleyModel" ({ cls := "TimberValleyModel", name := "mill", desc := "(I)Z" } : MethodName) ({ cls := "TimberValleyModel", name := "mill", desc := "(I)Z" } : MethodName) ∈ gw := gw_m (lt_8 179 rfl) rfl
theorem kw_1979 : Cond.code ({ cls := "TimberValleyModel", name := "mill", desc := "(I)Z" } : MethodName) prog_14_method_14_code 2 (Option.some FieldType.boolean) ∈ gw := gw_m (lt_8 180 rfl) rfl
theorem kw_1980 : Cond.methodLink "TimberValleyLaw" 48 ({ cls := "TimberValleyModel", name := "weather", desc := "(IIII)Z" } : MethodName) ∈ gw := gw_m (lt_8 181 rfl) rfl
theorem kw_1981 : Cond.instanceMethod ({ cls := "TimberValleyModel", name := "weather", desc := "(IIII)Z" } : MethodName) ∈ gw := gw_m (lt_8 182 rfl) rfl
theorem kw_1982 : Cond.selects "TimberValleyModel" ({ cls := "TimberValleyModel", name := "weather", desc := "(IIII)Z" } : MethodName) ({ cls := "TimberValleyModel", name := "weather", desc := "(IIII)Z" } : MethodName) ∈ gw := gw_m (lt_8 183 rfl) rfl
theorem kw_1983 : Cond.code ({ cls := "TimberValleyModel", name := "weather", desc := "(IIII)Z" } : MethodName) prog_14_method_17_code 5 (Option.some FieldType.boolean) ∈ gw := gw_m (lt_8 184 rfl) rfl
theorem kw_1984 : Cond.methodLink "TimberValleyLaw" 52 ({ cls := "TimberValleyModel", name := "weatherOf", desc := "(II)I" } : MethodName) ∈ gw := gw_m (lt_8 185 rfl) rfl
theorem kw_1985 : Cond.instanceMethod ({ cls := "TimberValleyModel", name := "weatherOf", desc := "(II)I" } : MethodName) ∈ gw := gw_m (lt_8 186 rfl) rfl
theorem kw_1986 : Cond.selects "TimberValleyModel" ({ cls := "TimberValleyModel", name := "weatherOf", desc := "(II)I" } : MethodName) ({ cls := "TimberValleyModel", name := "weatherOf", desc := "(II)I" } : MethodName) ∈ gw := gw_m (lt_8 187 rfl) rfl
theorem kw_1987 : Cond.code ({ cls := "TimberValleyModel", name := "weatherOf", desc := "(II)I" } : MethodName) prog_14_method_19_code 3 (Option.some FieldType.int) ∈ gw := gw_m (lt_8 188 rfl) rfl
theorem kw_1988 : Cond.methodLink "TimberValleyModel" 277 ({ cls := "TimberValleyModel", name := "sky", desc := "(II)I" } : MethodName) ∈ gw := gw_m (lt_8 189 rfl) rfl
theorem kw_1990 : Cond.instanceMethod ({ cls := "TimberValleyModel", name := "sky", desc := "(II)I" } : MethodName) ∈ gw := gw_m (lt_8 191 rfl) rfl
theorem kw_1991 : Cond.code ({ cls := "TimberValleyModel", name := "sky", desc := "(II)I" } : MethodName) prog_14_method_18_code 5 (Option.some FieldType.int) ∈ gw := gw_m (lt_8 192 rfl) rfl
theorem kw_1992 : Cond.methodLink "TimberValleyLaw" 56 ({ cls := "TimberValleyModel", name := "price", desc := "(II)Z" } : MethodName) ∈ gw := gw_m (lt_8 193 rfl) rfl
theorem kw_1993 : Cond.instanceMethod ({ cls := "TimberValleyModel", name := "price", desc := "(II)Z" } : MethodName) ∈ gw := gw_m (lt_8 194 rfl) rfl
theorem kw_1994 : Cond.selects "TimberValleyModel" ({ cls := "TimberValleyModel", name := "price", desc := "(II)Z" } : MethodName) ({ cls := "TimberValleyModel", name := "price", desc := "(II)Z" } : MethodName) ∈ gw := gw_m (lt_8 195 rfl) rfl
theorem kw_1995 : Cond.code ({ cls := "TimberValleyModel", name := "price", desc := "(II)Z" } : MethodName) prog_14_method_23_code 3 (Option.some FieldType.boolean) ∈ gw := gw_m (lt_8 196 rfl) rfl
theorem kw_1996 : Cond.methodLink "TimberValleyLaw" 60 ({ cls := "TimberValleyModel", name := "buck", desc := "(II)I" } : MethodName) ∈ gw := gw_m (lt_8 197 rfl) rfl
theorem kw_1997 : Cond.instanceMethod ({ cls := "TimberValleyModel", name := "buck", desc := "(II)I" } : MethodName) ∈ gw := gw_m (lt_8 198 rfl) rfl
theorem kw_1998 : Cond.selects "TimberValleyModel" ({ cls := "TimberValleyModel", name := "buck", desc := "(II)I" } : MethodName) ({ cls := "TimberValleyModel", name := "buck", desc := "(II)I" } : MethodName) ∈ gw := gw_m (lt_8 199 rfl) rfl
theorem kw_1999 : Cond.code ({ cls := "TimberValleyModel", name := "buck", desc := "(II)I" } : MethodName) prog_14_method_25_code 3 (Option.some FieldType.int) ∈ gw := gw_m (lt_8 200 rfl) rfl
theorem kw_2000 : Cond.methodLink "TimberValleyModel" 289 ({ cls := "TimberValleyModel", name := "bucks", desc := "(II)I" } : MethodName) ∈ gw := gw_m (lt_8 201 rfl) rfl
theorem kw_2002 : Cond.instanceMethod ({ cls := "TimberValleyModel", name := "bucks", desc := "(II)I" } : MethodName) ∈ gw := gw_m (lt_8 203 rfl) rfl
theorem kw_2003 : Cond.code ({ cls := "TimberValleyModel", name := "bucks", desc := "(II)I" } : MethodName) prog_14_method_24_code 7 (Option.some FieldType.int) ∈ gw := gw_m (lt_8 204 rfl) rfl
theorem kw_2004 : Cond.methodLink "TimberValleyModel" 280 ({ cls := "TimberValleyModel", name := "unitsOf", desc := "(I)I" } : MethodName) ∈ gw := gw_m (lt_8 205 rfl) rfl
theorem kw_2005 : Cond.static ({ cls := "TimberValleyModel", name := "unitsOf", desc := "(I)I" } : MethodName) ∈ gw := gw_m (lt_8 206 rfl) rfl
theorem kw_2006 : Cond.code ({ cls := "TimberValleyModel", name := "unitsOf", desc := "(I)I" } : MethodName) prog_14_method_21_code 1 (Option.some FieldType.int) ∈ gw := gw_m (lt_8 207 rfl) rfl
theorem kw_2007 : Cond.methodLink "TimberValleyModel" 283 ({ cls := "TimberValleyModel", name := "wideAt", desc := "(III)I" } : MethodName) ∈ gw := gw_m (lt_8 208 rfl) rfl
theorem kw_2009 : Cond.instanceMethod ({ cls := "TimberValleyModel", name := "wideAt", desc := "(III)I" } : MethodName) ∈ gw := gw_m (lt_8 210 rfl) rfl
theorem kw_2010 : Cond.code ({ cls := "TimberValleyModel", name := "wideAt", desc := "(III)I" } : MethodName) prog_14_method_22_code 5 (Option.some FieldType.int) ∈ gw := gw_m (lt_8 211 rfl) rfl
theorem kw_2011 : Cond.methodLink "TimberValleyLaw" 65 ({ cls := "TimberValleyModel", name := "piece", desc := "(III)I" } : MethodName) ∈ gw := gw_m (lt_8 212 rfl) rfl
theorem kw_2012 : Cond.instanceMethod ({ cls := "TimberValleyModel", name := "piece", desc := "(III)I" } : MethodName) ∈ gw := gw_m (lt_8 213 rfl) rfl
theorem kw_2013 : Cond.selects "TimberValleyModel" ({ cls := "TimberValleyModel", name := "piece", desc := "(III)I" } : MethodName) ({ cls := "TimberValleyModel", name := "piece", desc := "(III)I" } : MethodName) ∈ gw := gw_m (lt_8 214 rfl) rfl
theorem kw_2014 : Cond.code ({ cls := "TimberValleyModel", name := "piece", desc := "(III)I" } : MethodName) prog_14_method_26_code 4 (Option.some FieldType.int) ∈ gw := gw_m (lt_8 215 rfl) rfl
theorem kw_2015 : Cond.methodLink "TimberValleyLaw" 69 ({ cls := "TimberValleyModel", name := "worth", desc := "(III)I" } : MethodName) ∈ gw := gw_m (lt_8 216 rfl) rfl
theorem kw_2016 : Cond.instanceMethod ({ cls := "TimberValleyModel", name := "worth", desc := "(III)I" } : MethodName) ∈ gw := gw_m (lt_8 217 rfl) rfl
theorem kw_2017 : Cond.selects "TimberValleyModel" ({ cls := "TimberValleyModel", name := "worth", desc := "(III)I" } : MethodName) ({ cls := "TimberValleyModel", name := "worth", desc := "(III)I" } : MethodName) ∈ gw := gw_m (lt_8 218 rfl) rfl
theorem kw_2018 : Cond.code ({ cls := "TimberValleyModel", name := "worth", desc := "(III)I" } : MethodName) prog_14_method_28_code 7 (Option.some FieldType.int) ∈ gw := gw_m (lt_8 219 rfl) rfl
theorem kw_2019 : Cond.methodLink "TimberValleyModel" 292 ({ cls := "TimberValleyModel", name := "lays", desc := "(III)Z" } : MethodName) ∈ gw := gw_m (lt_8 220 rfl) rfl
theorem kw_2021 : Cond.instanceMethod ({ cls := "TimberValleyModel", name := "lays", desc := "(III)Z" } : MethodName) ∈ gw := gw_m (lt_8 222 rfl) rfl
theorem kw_2022 : Cond.code ({ cls := "TimberValleyModel", name := "lays", desc := "(III)Z" } : MethodName) prog_14_method_27_code 10 (Option.some FieldType.boolean) ∈ gw := gw_m (lt_8 223 rfl) rfl
theorem kw_2023 : Cond.methodLink "TimberValleyLaw" 232 ({ cls := "TimberValleyModel", name := "knew", desc := "(III)I" } : MethodName) ∈ gw := gw_m (lt_8 224 rfl) rfl
theorem kw_2024 : Cond.instanceMethod ({ cls := "TimberValleyModel", name := "knew", desc := "(III)I" } : MethodName) ∈ gw := gw_m (lt_8 225 rfl) rfl
theorem kw_2025 : Cond.selects "TimberValleyModel" ({ cls := "TimberValleyModel", name := "knew", desc := "(III)I" } : MethodName) ({ cls := "TimberValleyModel", name := "knew", desc := "(III)I" } : MethodName) ∈ gw := gw_m (lt_8 226 rfl) rfl
theorem kw_2026 : Cond.code ({ cls := "TimberValleyModel", name := "knew", desc := "(III)I" } : MethodName) prog_14_method_34_code 6 (Option.some FieldType.int) ∈ gw := gw_m (lt_8 227 rfl) rfl
theorem kw_2027 : Cond.methodLink "TimberValleyModel" 306 ({ cls := "TimberValleyModel", name := "isLog", desc := "(I)Z" } : MethodName) ∈ gw := gw_m (lt_8 228 rfl) rfl
theorem kw_2029 : Cond.instanceMethod ({ cls := "TimberValleyModel", name := "isLog", desc := "(I)Z" } : MethodName) ∈ gw := gw_m (lt_8 230 rfl) rfl
theorem kw_2030 : Cond.code ({ cls := "TimberValleyModel", name := "isLog", desc := "(I)Z" } : MethodName) prog_14_method_29_code 2 (Option.some FieldType.boolean) ∈ gw := gw_m (lt_8 231 rfl) rfl
theorem kw_2031 : Cond.methodLink "TimberValleyLaw" 236 ({ cls := "TimberValleyModel", name := "alter", desc := "(III)Z" } : MethodName) ∈ gw := gw_m (lt_8 232 rfl) rfl
theorem kw_2032 : Cond.instanceMethod ({ cls := "TimberValleyModel", name := "alter", desc := "(III)Z" } : MethodName) ∈ gw := gw_m (lt_8 233 rfl) rfl
theorem kw_2033 : Cond.selects "TimberValleyModel" ({ cls := "TimberValleyModel", name := "alter", desc := "(III)Z" } : MethodName) ({ cls := "TimberValleyModel", name := "alter", desc := "(III)Z" } : MethodName) ∈ gw := gw_m (lt_8 234 rfl) rfl
theorem kw_2034 : Cond.code ({ cls := "TimberValleyModel", name := "alter", desc := "(III)Z" } : MethodName) prog_14_method_35_code 4 (Option.some FieldType.boolean) ∈ gw := gw_m (lt_8 235 rfl) rfl
theorem kw_2035 : Cond.constant "TimberValleyModel" 309 (65535 : Int32) ∈ gw := gw_m (lt_8 236 rfl) rfl
theorem kw_2036 : Cond.methodLink "TimberValleyLaw" 240 ({ cls := "TimberValleyModel", name := "checked", desc := "(II)I" } : MethodName) ∈ gw := gw_m (lt_8 237 rfl) rfl
theorem kw_2037 : Cond.instanceMethod ({ cls := "TimberValleyModel", name := "checked", desc := "(II)I" } : MethodName) ∈ gw := gw_m (lt_8 238 rfl) rfl
theorem kw_2038 : Cond.selects "TimberValleyModel" ({ cls := "TimberValleyModel", name := "checked", desc := "(II)I" } : MethodName) ({ cls := "TimberValleyModel", name := "checked", desc := "(II)I" } : MethodName) ∈ gw := gw_m (lt_8 239 rfl) rfl
theorem kw_2039 : Cond.code ({ cls := "TimberValleyModel", name := "checked", desc := "(II)I" } : MethodName) prog_14_method_37_code 4 (Option.some FieldType.int) ∈ gw := gw_m (lt_9 0 rfl) rfl
theorem kw_2040 : Cond.methodLink "TimberValleyModel" 314 ({ cls := "TimberValleyModel", name := "checks", desc := "(I)I" } : MethodName) ∈ gw := gw_m (lt_9 1 rfl) rfl
theorem kw_2042 : Cond.instanceMethod ({ cls := "TimberValleyModel", name := "checks", desc := "(I)I" } : MethodName) ∈ gw := gw_m (lt_9 3 rfl) rfl
theorem kw_2043 : Cond.code ({ cls := "TimberValleyModel", name := "checks", desc := "(I)I" } : MethodName) prog_14_method_36_code 6 (Option.some FieldType.int) ∈ gw := gw_m (lt_9 4 rfl) rfl
theorem kw_2044 : Cond.methodLink "TimberValleyModel" 302 ({ cls := "TimberValleyModel", name := "sums", desc := "(II)I" } : MethodName) ∈ gw := gw_m (lt_9 5 rfl) rfl
theorem kw_2046 : Cond.instanceMethod ({ cls := "TimberValleyModel", name := "sums", desc := "(II)I" } : MethodName) ∈ gw := gw_m (lt_9 7 rfl) rfl
theorem kw_2047 : Cond.code ({ cls := "TimberValleyModel", name := "sums", desc := "(II)I" } : MethodName) prog_14_method_33_code 5 (Option.some FieldType.int) ∈ gw := gw_m (lt_9 8 rfl) rfl
theorem kw_2048 : Cond.constant "TimberValleyModel" 305 (65537 : Int32) ∈ gw := gw_m (lt_9 9 rfl) rfl
theorem kw_2049 : Cond.constant "TimberValleyModel" 310 (65536 : Int32) ∈ gw := gw_m (lt_9 10 rfl) rfl
theorem kw_2050 : Cond.methodLink "TimberValleyLaw" 248 ({ cls := "TimberValleyModel", name := "log", desc := "(II)I" } : MethodName) ∈ gw := gw_m (lt_9 11 rfl) rfl
theorem kw_2051 : Cond.instanceMethod ({ cls := "TimberValleyModel", name := "log", desc := "(II)I" } : MethodName) ∈ gw := gw_m (lt_9 12 rfl) rfl
theorem kw_2052 : Cond.selects "TimberValleyModel" ({ cls := "TimberValleyModel", name := "log", desc := "(II)I" } : MethodName) ({ cls := "TimberValleyModel", name := "log", desc := "(II)I" } : MethodName) ∈ gw := gw_m (lt_9 13 rfl) rfl
theorem kw_2053 : Cond.code ({ cls := "TimberValleyModel", name := "log", desc := "(II)I" } : MethodName) prog_14_method_38_code 3 (Option.some FieldType.int) ∈ gw := gw_m (lt_9 14 rfl) rfl
theorem kw_2054 : Cond.methodLink "TimberValleyModel" 317 ({ cls := "TimberValleyModel", name := "volume", desc := "(I)I" } : MethodName) ∈ gw := gw_m (lt_9 15 rfl) rfl
theorem kw_2056 : Cond.instanceMethod ({ cls := "TimberValleyModel", name := "volume", desc := "(I)I" } : MethodName) ∈ gw := gw_m (lt_9 17 rfl) rfl
theorem kw_2057 : Cond.code ({ cls := "TimberValleyModel", name := "volume", desc := "(I)I" } : MethodName) prog_14_method_31_code 2 (Option.some FieldType.int) ∈ gw := gw_m (lt_9 18 rfl) rfl
theorem kw_2058 : Cond.methodLink "TimberValleyLaw" 105 ({ cls := "TimberValleyModel", name := "feed", desc := "(IIIII)I" } : MethodName) ∈ gw := gw_m (lt_9 19 rfl) rfl
theorem kw_2059 : Cond.instanceMethod ({ cls := "TimberValleyModel", name := "feed", desc := "(IIIII)I" } : MethodName) ∈ gw := gw_m (lt_9 20 rfl) rfl
theorem kw_2060 : Cond.selects "TimberValleyModel" ({ cls := "TimberValleyModel", name := "feed", desc := "(IIIII)I" } : MethodName) ({ cls := "TimberValleyModel", name := "feed", desc := "(IIIII)I" } : MethodName) ∈ gw := gw_m (lt_9 21 rfl) rfl
theorem kw_2061 : Cond.code ({ cls := "TimberValleyModel", name := "feed", desc := "(IIIII)I" } : MethodName) prog_14_method_39_code 8 (Option.some FieldType.int) ∈ gw := gw_m (lt_9 22 rfl) rfl
theorem kw_2062 : Cond.methodLink "TimberValleyLaw" 109 ({ cls := "TimberValleyModel", name := "end", desc := "(I)I" } : MethodName) ∈ gw := gw_m (lt_9 23 rfl) rfl
theorem kw_2063 : Cond.instanceMethod ({ cls := "TimberValleyModel", name := "end", desc := "(I)I" } : MethodName) ∈ gw := gw_m (lt_9 24 rfl) rfl
theorem kw_2064 : Cond.selects "TimberValleyModel" ({ cls := "TimberValleyModel", name := "end", desc := "(I)I" } : MethodName) ({ cls := "TimberValleyModel", name := "end", desc := "(I)I" } : MethodName) ∈ gw := gw_m (lt_9 25 rfl) rfl
theorem kw_2065 : Cond.code ({ cls := "TimberValleyModel", name := "end", desc := "(I)I" } : MethodName) prog_14_method_40_code 2 (Option.some FieldType.int) ∈ gw := gw_m (lt_9 26 rfl) rfl
theorem kw_2066 : Cond.methodLink "TimberValleyLaw" 113 ({ cls := "TimberValleyModel", name := "law", desc := "(I)I" } : MethodName) ∈ gw := gw_m (lt_9 27 rfl) rfl
theorem kw_2067 : Cond.instanceMethod ({ cls := "TimberValleyModel", name := "law", desc := "(I)I" } : MethodName) ∈ gw := gw_m (lt_9 28 rfl) rfl
theorem kw_2068 : Cond.selects "TimberValleyModel" ({ cls := "TimberValleyModel", name := "law", desc := "(I)I" } : MethodName) ({ cls := "TimberValleyModel", name := "law", desc := "(I)I" } : MethodName) ∈ gw := gw_m (lt_9 29 rfl) rfl
theorem kw_2069 : Cond.code ({ cls := "TimberValleyModel", name := "law", desc := "(I)I" } : MethodName) prog_14_method_50_code 4 (Option.some FieldType.int) ∈ gw := gw_m (lt_9 30 rfl) rfl
theorem kw_2070 : Cond.methodLink "TimberValleyModel" 391 ({ cls := "TimberValleyModel", name := "next", desc := "()V" } : MethodName) ∈ gw := gw_m (lt_9 31 rfl) rfl
theorem kw_2072 : Cond.instanceMethod ({ cls := "TimberValleyModel", name := "next", desc := "()V" } : MethodName) ∈ gw := gw_m (lt_9 33 rfl) rfl
theorem kw_2073 : Cond.code ({ cls := "TimberValleyModel", name := "next", desc := "()V" } : MethodName) prog_14_method_42_code 2 (Option.none : Option FieldType) ∈ gw := gw_m (lt_9 34 rfl) rfl
theorem kw_2074 : Cond.methodLink "TimberValleyModel" 329 ({ cls := "TimberValleyModel", name := "byteAt", desc := "(I)I" } : MethodName) ∈ gw := gw_m (lt_9 35 rfl) rfl
theorem kw_2076 : Cond.instanceMethod ({ cls := "TimberValleyModel", name := "byteAt", desc := "(I)I" } : MethodName) ∈ gw := gw_m (lt_9 37 rfl) rfl
theorem kw_2077 : Cond.code ({ cls := "TimberValleyModel", name := "byteAt", desc := "(I)I" } : MethodName) prog_14_method_41_code 2 (Option.some FieldType.int) ∈ gw := gw_m (lt_9 38 rfl) rfl
theorem kw_2078 : Cond.methodLink "TimberValleyModel" 424 ({ cls := "TimberValleyModel", name := "statement", desc := "()Z" } : MethodName) ∈ gw := gw_m (lt_9 39 rfl) rfl
theorem kw_2080 : Cond.instanceMethod ({ cls := "TimberValleyModel", name := "statement", desc := "()Z" } : MethodName) ∈ gw := gw_m (lt_9 41 rfl) rfl
theorem kw_2081 : Cond.code ({ cls := "TimberValleyModel", name := "statement", desc := "()Z" } : MethodName) prog_14_method_49_code 3 (Option.some FieldType.boolean) ∈ gw := gw_m (lt_9 42 rfl) rfl
theorem kw_2083 : Cond.methodLink "TimberValleyModel" 379 ({ cls := "TimberValleyModel", name := "isWord", desc := "(Ljava/lang/String;)Z" } : MethodName) ∈ gw := gw_m (lt_9 44 rfl) rfl
theorem kw_2085 : Cond.instanceMethod ({ cls := "TimberValleyModel", name := "isWord", desc := "(Ljava/lang/String;)Z" } : MethodName) ∈ gw := gw_m (lt_9 46 rfl) rfl
theorem kw_2086 : Cond.code ({ cls := "TimberValleyModel", name := "isWord", desc := "(Ljava/lang/String;)Z" } : MethodName) prog_14_method_43_code 4 (Option.some FieldType.boolean) ∈ gw := gw_m (lt_9 47 rfl) rfl
theorem kw_2087 : Cond.methodLink "TimberValleyModel" 338 ({ cls := "java/lang/String", name := "length", desc := "()I" } : MethodName) ∈ gw := gw_m (lt_9 48 rfl) rfl
theorem kw_2088 : Cond.methodLink "TimberValleyModel" 344 ({ cls := "java/lang/String", name := "charAt", desc := "(I)C" } : MethodName) ∈ gw := gw_m (lt_9 49 rfl) rfl
theorem kw_2092 : Cond.methodLink "TimberValleyModel" 388 ({ cls := "TimberValleyModel", name := "wrong", desc := "(I)Z" } : MethodName) ∈ gw := gw_m (lt_9 53 rfl) rfl
theorem kw_2094 : Cond.instanceMethod ({ cls := "TimberValleyModel", name := "wrong", desc := "(I)Z" } : MethodName) ∈ gw := gw_m (lt_9 55 rfl) rfl
theorem kw_2095 : Cond.code ({ cls := "TimberValleyModel", name := "wrong", desc := "(I)Z" } : MethodName) prog_14_method_45_code 2 (Option.some FieldType.boolean) ∈ gw := gw_m (lt_9 56 rfl) rfl
theorem kw_2100 : Cond.methodLink "TimberValleyModel" 418 ({ cls := "TimberValleyModel", name := "takesCond", desc := "(I)Z" } : MethodName) ∈ gw := gw_m (lt_9 61 rfl) rfl
theorem kw_2102 : Cond.instanceMethod ({ cls := "TimberValleyModel", name := "takesCond", desc := "(I)Z" } : MethodName) ∈ gw := gw_m (lt_9 63 rfl) rfl
theorem kw_2103 : Cond.code ({ cls := "TimberValleyModel", name := "takesCond", desc := "(I)Z" } : MethodName) prog_14_method_48_code 4 (Option.some FieldType.boolean) ∈ gw := gw_m (lt_9 64 rfl) rfl
theorem kw_2105 : Cond.methodLink "TimberValleyModel" 385 ({ cls := "TimberValleyModel", name := "factHere", desc := "()I" } : MethodName) ∈ gw := gw_m (lt_9 66 rfl) rfl
theorem kw_2107 : Cond.instanceMethod ({ cls := "TimberValleyModel", name := "factHere", desc := "()I" } : MethodName) ∈ gw := gw_m (lt_9 68 rfl) rfl
theorem kw_2108 : Cond.code ({ cls := "TimberValleyModel", name := "factHere", desc := "()I" } : MethodName) prog_14_method_47_code 2 (Option.some FieldType.int) ∈ gw := gw_m (lt_9 69 rfl) rfl
theorem kw_2109 : Cond.methodLink "TimberValleyModel" 375 ({ cls := "TimberValleyModel", name := "factWord", desc := "(I)Ljava/lang/String;" } : MethodName) ∈ gw := gw_m (lt_9 70 rfl) rfl
theorem kw_2110 : Cond.static ({ cls := "TimberValleyModel", name := "factWord", desc := "(I)Ljava/lang/String;" } : MethodName) ∈ gw := gw_m (lt_9 71 rfl) rfl
theorem kw_2111 : Cond.code ({ cls := "TimberValleyModel", name := "factWord", desc := "(I)Ljava/lang/String;" } : MethodName) prog_14_method_46_code 1 (Option.some (FieldType.object "java/lang/String")) ∈ gw := gw_m (lt_9 72 rfl) rfl
theorem kw_2125 : Cond.methodLink "TimberValleyModel" 394 ({ cls := "TimberValleyModel", name := "signHere", desc := "()I" } : MethodName) ∈ gw := gw_m (lt_9 86 rfl) rfl
theorem kw_2127 : Cond.instanceMethod ({ cls := "TimberValleyModel", name := "signHere", desc := "()I" } : MethodName) ∈ gw := gw_m (lt_9 88 rfl) rfl
theorem kw_2128 : Cond.code ({ cls := "TimberValleyModel", name := "signHere", desc := "()I" } : MethodName) prog_14_method_44_code 2 (Option.some FieldType.int) ∈ gw := gw_m (lt_9 89 rfl) rfl
theorem kw_2130 : Cond.methodLink "TimberValleyLaw" 117 ({ cls := "TimberValleyModel", name := "place", desc := "()I" } : MethodName) ∈ gw := gw_m (lt_9 91 rfl) rfl
theorem kw_2131 : Cond.instanceMethod ({ cls := "TimberValleyModel", name := "place", desc := "()I" } : MethodName) ∈ gw := gw_m (lt_9 92 rfl) rfl
theorem kw_2132 : Cond.selects "TimberValleyModel" ({ cls := "TimberValleyModel", name := "place", desc := "()I" } : MethodName) ({ cls := "TimberValleyModel", name := "place", desc := "()I" } : MethodName) ∈ gw := gw_m (lt_9 93 rfl) rfl
theorem kw_2133 : Cond.code ({ cls := "TimberValleyModel", name := "place", desc := "()I" } : MethodName) prog_14_method_51_code 1 (Option.some FieldType.int) ∈ gw := gw_m (lt_9 94 rfl) rfl
theorem kw_2134 : Cond.methodLink "TimberValleyLaw" 122 ({ cls := "TimberValleyModel", name := "why", desc := "(IIII)I" } : MethodName) ∈ gw := gw_m (lt_9 95 rfl) rfl
theorem kw_2135 : Cond.instanceMethod ({ cls := "TimberValleyModel", name := "why", desc := "(IIII)I" } : MethodName) ∈ gw := gw_m (lt_9 96 rfl) rfl
theorem kw_2136 : Cond.selects "TimberValleyModel" ({ cls := "TimberValleyModel", name := "why", desc := "(IIII)I" } : MethodName) ({ cls := "TimberValleyModel", name := "why", desc := "(IIII)I" } : MethodName) ∈ gw := gw_m (lt_9 97 rfl) rfl
theorem kw_2137 : Cond.code ({ cls := "TimberValleyModel", name := "why", desc := "(IIII)I" } : MethodName) prog_14_method_58_code 5 (Option.some FieldType.int) ∈ gw := gw_m (lt_9 98 rfl) rfl
theorem kw_2138 : Cond.methodLink "TimberValleyModel" 440 ({ cls := "TimberValleyModel", name := "isCrew", desc := "(I)Z" } : MethodName) ∈ gw := gw_m (lt_9 99 rfl) rfl
theorem kw_2140 : Cond.instanceMethod ({ cls := "TimberValleyModel", name := "isCrew", desc := "(I)Z" } : MethodName) ∈ gw := gw_m (lt_9 101 rfl) rfl
theorem kw_2141 : Cond.code ({ cls := "TimberValleyModel", name := "isCrew", desc := "(I)Z" } : MethodName) prog_14_method_74_code 2 (Option.some FieldType.boolean) ∈ gw := gw_m (lt_9 102 rfl) rfl
theorem kw_2142 : Cond.methodLink "TimberValleyModel" 443 ({ cls := "TimberValleyModel", name := "asksCut", desc := "(IIII)V" } : MethodName) ∈ gw := gw_m (lt_9 103 rfl) rfl
theorem kw_2144 : Cond.instanceMethod ({ cls := "TimberValleyModel", name := "asksCut", desc := "(IIII)V" } : MethodName) ∈ gw := gw_m (lt_9 105 rfl) rfl
theorem kw_2145 : Cond.code ({ cls := "TimberValleyModel", name := "asksCut", desc := "(IIII)V" } : MethodName) prog_14_method_53_code 5 (Option.none : Option FieldType) ∈ gw := gw_m (lt_9 106 rfl) rfl
theorem kw_2146 : Cond.methodLink "TimberValleyModel" 430 ({ cls := "TimberValleyModel", name := "asks", desc := "(I)V" } : MethodName) ∈ gw := gw_m (lt_9 107 rfl) rfl
theorem kw_2148 : Cond.instanceMethod ({ cls := "TimberValleyModel", name := "asks", desc := "(I)V" } : MethodName) ∈ gw := gw_m (lt_9 109 rfl) rfl
theorem kw_2149 : Cond.code ({ cls := "TimberValleyModel", name := "asks", desc := "(I)V" } : MethodName) prog_14_method_52_code 3 (Option.none : Option FieldType) ∈ gw := gw_m (lt_9 110 rfl) rfl
theorem kw_2150 : Cond.methodLink "TimberValleyModel" 428 ({ cls := "TimberValleyModel", name := "season", desc := "()I" } : MethodName) ∈ gw := gw_m (lt_9 111 rfl) rfl
theorem kw_2152 : Cond.instanceMethod ({ cls := "TimberValleyModel", name := "season", desc := "()I" } : MethodName) ∈ gw := gw_m (lt_9 113 rfl) rfl
theorem kw_2153 : Cond.code ({ cls := "TimberValleyModel", name := "season", desc := "()I" } : MethodName) prog_14_method_20_code 1 (Option.some FieldType.int) ∈ gw := gw_m (lt_9 114 rfl) rfl
theorem kw_2154 : Cond.methodLink "TimberValleyModel" 295 ({ cls := "TimberValleyModel", name := "farOf", desc := "(I)I" } : MethodName) ∈ gw := gw_m (lt_9 115 rfl) rfl
theorem kw_2156 : Cond.instanceMethod ({ cls := "TimberValleyModel", name := "farOf", desc := "(I)I" } : MethodName) ∈ gw := gw_m (lt_9 117 rfl) rfl
theorem kw_2157 : Cond.code ({ cls := "TimberValleyModel", name := "farOf", desc := "(I)I" } : MethodName) prog_14_method_15_code 2 (Option.some FieldType.int) ∈ gw := gw_m (lt_9 118 rfl) rfl
theorem kw_2158 : Cond.methodLink "TimberValleyModel" 242 ({ cls := "TimberValleyModel", name := "xOf", desc := "(I)I" } : MethodName) ∈ gw := gw_m (lt_9 119 rfl) rfl
theorem kw_2159 : Cond.static ({ cls := "TimberValleyModel", name := "xOf", desc := "(I)I" } : MethodName) ∈ gw := gw_m (lt_9 120 rfl) rfl
theorem kw_2160 : Cond.code ({ cls := "TimberValleyModel", name := "xOf", desc := "(I)I" } : MethodName) prog_14_method_5_code 1 (Option.some FieldType.int) ∈ gw := gw_m (lt_9 121 rfl) rfl
theorem kw_2161 : Cond.methodLink "TimberValleyModel" 246 ({ cls := "TimberValleyModel", name := "apart", desc := "(II)I" } : MethodName) ∈ gw := gw_m (lt_9 122 rfl) rfl
theorem kw_2162 : Cond.static ({ cls := "TimberValleyModel", name := "apart", desc := "(II)I" } : MethodName) ∈ gw := gw_m (lt_9 123 rfl) rfl
theorem kw_2163 : Cond.code ({ cls := "TimberValleyModel", name := "apart", desc := "(II)I" } : MethodName) prog_14_method_7_code 2 (Option.some FieldType.int) ∈ gw := gw_m (lt_9 124 rfl) rfl
theorem kw_2164 : Cond.methodLink "TimberValleyModel" 250 ({ cls := "TimberValleyModel", name := "yOf", desc := "(I)I" } : MethodName) ∈ gw := gw_m (lt_9 125 rfl) rfl
theorem kw_2165 : Cond.static ({ cls := "TimberValleyModel", name := "yOf", desc := "(I)I" } : MethodName) ∈ gw := gw_m (lt_9 126 rfl) rfl
theorem kw_2166 : Cond.code ({ cls := "TimberValleyModel", name := "yOf", desc := "(I)I" } : MethodName) prog_14_method_6_code 1 (Option.some FieldType.int) ∈ gw := gw_m (lt_9 127 rfl) rfl
theorem kw_2167 : Cond.methodLink "TimberValleyModel" 447 ({ cls := "TimberValleyModel", name := "barring", desc := "(I)I" } : MethodName) ∈ gw := gw_m (lt_9 128 rfl) rfl
theorem kw_2169 : Cond.instanceMethod ({ cls := "TimberValleyModel", name := "barring", desc := "(I)I" } : MethodName) ∈ gw := gw_m (lt_9 130 rfl) rfl
theorem kw_2170 : Cond.code ({ cls := "TimberValleyModel", name := "barring", desc := "(I)I" } : MethodName) prog_14_method_56_code 4 (Option.some FieldType.int) ∈ gw := gw_m (lt_9 131 rfl) rfl
theorem kw_2171 : Cond.methodLink "TimberValleyModel" 434 ({ cls := "TimberValleyModel", name := "inForce", desc := "()I" } : MethodName) ∈ gw := gw_m (lt_9 132 rfl) rfl
theorem kw_2173 : Cond.instanceMethod ({ cls := "TimberValleyModel", name := "inForce", desc := "()I" } : MethodName) ∈ gw := gw_m (lt_9 134 rfl) rfl
theorem kw_2174 : Cond.code ({ cls := "TimberValleyModel", name := "inForce", desc := "()I" } : MethodName) prog_14_method_55_code 3 (Option.some FieldType.int) ∈ gw := gw_m (lt_9 135 rfl) rfl
theorem kw_2175 : Cond.methodLink "TimberValleyModel" 437 ({ cls := "TimberValleyModel", name := "holds", desc := "(I)Z" } : MethodName) ∈ gw := gw_m (lt_9 136 rfl) rfl
theorem kw_2177 : Cond.instanceMethod ({ cls := "TimberValleyModel", name := "holds", desc := "(I)Z" } : MethodName) ∈ gw := gw_m (lt_9 138 rfl) rfl
theorem kw_2178 : Cond.code ({ cls := "TimberValleyModel", name := "holds", desc := "(I)Z" } : MethodName) prog_14_method_54_code 5 (Option.some FieldType.boolean) ∈ gw := gw_m (lt_9 139 rfl) rfl
theorem kw_2179 : Cond.methodLink "TimberValleyLaw" 126 ({ cls := "TimberValleyModel", name := "whyWay", desc := "(I)I" } : MethodName) ∈ gw := gw_m (lt_9 140 rfl) rfl
theorem kw_2180 : Cond.instanceMethod ({ cls := "TimberValleyModel", name := "whyWay", desc := "(I)I" } : MethodName) ∈ gw := gw_m (lt_9 141 rfl) rfl
theorem kw_2181 : Cond.selects "TimberValleyModel" ({ cls := "TimberValleyModel", name := "whyWay", desc := "(I)I" } : MethodName) ({ cls := "TimberValleyModel", name := "whyWay", desc := "(I)I" } : MethodName) ∈ gw := gw_m (lt_9 142 rfl) rfl
theorem kw_2182 : Cond.code ({ cls := "TimberValleyModel", name := "whyWay", desc := "(I)I" } : MethodName) prog_14_method_60_code 2 (Option.some FieldType.int) ∈ gw := gw_m (lt_9 143 rfl) rfl
theorem kw_2183 : Cond.methodLink "TimberValleyModel" 450 ({ cls := "TimberValleyModel", name := "isWay", desc := "(I)Z" } : MethodName) ∈ gw := gw_m (lt_9 144 rfl) rfl
theorem kw_2185 : Cond.instanceMethod ({ cls := "TimberValleyModel", name := "isWay", desc := "(I)Z" } : MethodName) ∈ gw := gw_m (lt_9 146 rfl) rfl
theorem kw_2186 : Cond.code ({ cls := "TimberValleyModel", name := "isWay", desc := "(I)Z" } : MethodName) prog_14_method_63_code 2 (Option.some FieldType.boolean) ∈ gw := gw_m (lt_9 147 rfl) rfl
theorem kw_2187 : Cond.methodLink "TimberValleyModel" 453 ({ cls := "TimberValleyModel", name := "barringWay", desc := "(I)I" } : MethodName) ∈ gw := gw_m (lt_9 148 rfl) rfl
theorem kw_2189 : Cond.instanceMethod ({ cls := "TimberValleyModel", name := "barringWay", desc := "(I)I" } : MethodName) ∈ gw := gw_m (lt_9 150 rfl) rfl
theorem kw_2190 : Cond.code ({ cls := "TimberValleyModel", name := "barringWay", desc := "(I)I" } : MethodName) prog_14_method_59_code 2 (Option.some FieldType.int) ∈ gw := gw_m (lt_9 151 rfl) rfl
theorem kw_2191 : Cond.methodLink "TimberValleyLaw" 130 ({ cls := "TimberValleyModel", name := "due", desc := "(II)I" } : MethodName) ∈ gw := gw_m (lt_9 152 rfl) rfl
theorem kw_2192 : Cond.instanceMethod ({ cls := "TimberValleyModel", name := "due", desc := "(II)I" } : MethodName) ∈ gw := gw_m (lt_9 153 rfl) rfl
theorem kw_2193 : Cond.selects "TimberValleyModel" ({ cls := "TimberValleyModel", name := "due", desc := "(II)I" } : MethodName) ({ cls := "TimberValleyModel", name := "due", desc := "(II)I" } : MethodName) ∈ gw := gw_m (lt_9 154 rfl) rfl
theorem kw_2194 : Cond.code ({ cls := "TimberValleyModel", name := "due", desc := "(II)I" } : MethodName) prog_14_method_62_code 3 (Option.some FieldType.int) ∈ gw := gw_m (lt_9 155 rfl) rfl
theorem kw_2195 : Cond.methodLink "TimberValleyModel" 459 ({ cls := "TimberValleyModel", name := "dueOf", desc := "(II)I" } : MethodName) ∈ gw := gw_m (lt_9 156 rfl) rfl
theorem kw_2197 : Cond.instanceMethod ({ cls := "TimberValleyModel", name := "dueOf", desc := "(II)I" } : MethodName) ∈ gw := gw_m (lt_9 158 rfl) rfl
theorem kw_2198 : Cond.code ({ cls := "TimberValleyModel", name := "dueOf", desc := "(II)I" } : MethodName) prog_14_method_61_code 3 (Option.some FieldType.int) ∈ gw := gw_m (lt_9 159 rfl) rfl
theorem kw_2199 : Cond.methodLink "TimberValleyModel" 456 ({ cls := "TimberValleyModel", name := "lastOf", desc := "(I)I" } : MethodName) ∈ gw := gw_m (lt_9 160 rfl) rfl
theorem kw_2201 : Cond.instanceMethod ({ cls := "TimberValleyModel", name := "lastOf", desc := "(I)I" } : MethodName) ∈ gw := gw_m (lt_9 162 rfl) rfl
theorem kw_2202 : Cond.code ({ cls := "TimberValleyModel", name := "lastOf", desc := "(I)I" } : MethodName) prog_14_method_57_code 5 (Option.some FieldType.int) ∈ gw := gw_m (lt_9 163 rfl) rfl
theorem kw_2203 : Cond.methodLink "TimberValleyLaw" 78 ({ cls := "TimberValleyModel", name := "way", desc := "(III)I" } : MethodName) ∈ gw := gw_m (lt_9 164 rfl) rfl
theorem kw_2204 : Cond.instanceMethod ({ cls := "TimberValleyModel", name := "way", desc := "(III)I" } : MethodName) ∈ gw := gw_m (lt_9 165 rfl) rfl
theorem kw_2205 : Cond.selects "TimberValleyModel" ({ cls := "TimberValleyModel", name := "way", desc := "(III)I" } : MethodName) ({ cls := "TimberValleyModel", name := "way", desc := "(III)I" } : MethodName) ∈ gw := gw_m (lt_9 166 rfl) rfl
theorem kw_2206 : Cond.code ({ cls := "TimberValleyModel", name := "way", desc := "(III)I" } : MethodName) prog_14_method_64_code 4 (Option.some FieldType.int) ∈ gw := gw_m (lt_9 167 rfl) rfl
theorem kw_2207 : Cond.methodLink "TimberValleyModel" 465 ({ cls := "TimberValleyModel", name := "areBeside", desc := "(II)Z" } : MethodName) ∈ gw := gw_m (lt_9 168 rfl) rfl
theorem kw_2208 : Cond.static ({ cls := "TimberValleyModel", name := "areBeside", desc := "(II)Z" } : MethodName) ∈ gw := gw_m (lt_9 169 rfl) rfl
theorem kw_2209 : Cond.code ({ cls := "TimberValleyModel", name := "areBeside", desc := "(II)Z" } : MethodName) prog_14_method_8_code 2 (Option.some FieldType.boolean) ∈ gw := gw_m (lt_9 170 rfl) rfl
theorem kw_2210 : Cond.methodLink "TimberValleyLaw" 83 ({ cls := "TimberValleyModel", name := "iron", desc := "(I)I" } : MethodName) ∈ gw := gw_m (lt_9 171 rfl) rfl
theorem kw_2211 : Cond.instanceMethod ({ cls := "TimberValleyModel", name := "iron", desc := "(I)I" } : MethodName) ∈ gw := gw_m (lt_9 172 rfl) rfl
theorem kw_2212 : Cond.selects "TimberValleyModel" ({ cls := "TimberValleyModel", name := "iron", desc := "(I)I" } : MethodName) ({ cls := "TimberValleyModel", name := "iron", desc := "(I)I" } : MethodName) ∈ gw := gw_m (lt_9 173 rfl) rfl
theorem kw_2213 : Cond.code ({ cls := "TimberValleyModel", name := "iron", desc := "(I)I" } : MethodName) prog_14_method_65_code 2 (Option.some FieldType.int) ∈ gw := gw_m (lt_9 174 rfl) rfl
theorem kw_2214 : Cond.methodLink "TimberValleyLaw" 88 ({ cls := "TimberValleyModel", name := "lay", desc := "(IZ)Z" } : MethodName) ∈ gw := gw_m (lt_9 175 rfl) rfl
theorem kw_2215 : Cond.instanceMethod ({ cls := "TimberValleyModel", name := "lay", desc := "(IZ)Z" } : MethodName) ∈ gw := gw_m (lt_9 176 rfl) rfl
theorem kw_2216 : Cond.selects "TimberValleyModel" ({ cls := "TimberValleyModel", name := "lay", desc := "(IZ)Z" } : MethodName) ({ cls := "TimberValleyModel", name := "lay", desc := "(IZ)Z" } : MethodName) ∈ gw := gw_m (lt_9 177 rfl) rfl
theorem kw_2217 : Cond.code ({ cls := "TimberValleyModel", name := "lay", desc := "(IZ)Z" } : MethodName) prog_14_method_66_code 3 (Option.some FieldType.boolean) ∈ gw := gw_m (lt_9 178 rfl) rfl
theorem kw_2218 : Cond.methodLink "TimberValleyLaw" 92 ({ cls := "TimberValleyModel", name := "dam", desc := "(I)Z" } : MethodName) ∈ gw := gw_m (lt_9 179 rfl) rfl
theorem kw_2219 : Cond.instanceMethod ({ cls := "TimberValleyModel", name := "dam", desc := "(I)Z" } : MethodName) ∈ gw := gw_m (lt_9 180 rfl) rfl
theorem kw_2220 : Cond.selects "TimberValleyModel" ({ cls := "TimberValleyModel", name := "dam", desc := "(I)Z" } : MethodName) ({ cls := "TimberValleyModel", name := "dam", desc := "(I)Z" } : MethodName) ∈ gw := gw_m (lt_9 181 rfl) rfl
theorem kw_2221 : Cond.code ({ cls := "TimberValleyModel", name := "dam", desc := "(I)Z" } : MethodName) prog_14_method_67_code 2 (Option.some FieldType.boolean) ∈ gw := gw_m (lt_9 182 rfl) rfl
theorem kw_2222 : Cond.methodLink "TimberValleyLaw" 96 ({ cls := "TimberValleyModel", name := "carry", desc := "(I)I" } : MethodName) ∈ gw := gw_m (lt_9 183 rfl) rfl
theorem kw_2223 : Cond.instanceMethod ({ cls := "TimberValleyModel", name := "carry", desc := "(I)I" } : MethodName) ∈ gw := gw_m (lt_9 184 rfl) rfl
theorem kw_2224 : Cond.selects "TimberValleyModel" ({ cls := "TimberValleyModel", name := "carry", desc := "(I)I" } : MethodName) ({ cls := "TimberValleyModel", name := "carry", desc := "(I)I" } : MethodName) ∈ gw := gw_m (lt_9 185 rfl) rfl
theorem kw_2225 : Cond.code ({ cls := "TimberValleyModel", name := "carry", desc := "(I)I" } : MethodName) prog_14_method_70_code 2 (Option.some FieldType.int) ∈ gw := gw_m (lt_9 186 rfl) rfl
theorem kw_2226 : Cond.methodLink "TimberValleyModel" 474 ({ cls := "TimberValleyModel", name := "carryOf", desc := "(I)I" } : MethodName) ∈ gw := gw_m (lt_9 187 rfl) rfl
theorem kw_2228 : Cond.instanceMethod ({ cls := "TimberValleyModel", name := "carryOf", desc := "(I)I" } : MethodName) ∈ gw := gw_m (lt_9 189 rfl) rfl
theorem kw_2229 : Cond.code ({ cls := "TimberValleyModel", name := "carryOf", desc := "(I)I" } : MethodName) prog_14_method_69_code 2 (Option.some FieldType.int) ∈ gw := gw_m (lt_9 190 rfl) rfl
theorem kw_2230 : Cond.methodLink "TimberValleyModel" 471 ({ cls := "TimberValleyModel", name := "bears", desc := "(I)I" } : MethodName) ∈ gw := gw_m (lt_9 191 rfl) rfl
theorem kw_2232 : Cond.instanceMethod ({ cls := "TimberValleyModel", name := "bears", desc := "(I)I" } : MethodName) ∈ gw := gw_m (lt_9 193 rfl) rfl
theorem kw_2233 : Cond.code ({ cls := "TimberValleyModel", name := "bears", desc := "(I)I" } : MethodName) prog_14_method_68_code 6 (Option.some FieldType.int) ∈ gw := gw_m (lt_9 194 rfl) rfl
theorem kw_2234 : Cond.methodLink "TimberValleyLaw" 101 ({ cls := "TimberValleyModel", name := "day", desc := "()I" } : MethodName) ∈ gw := gw_m (lt_9 195 rfl) rfl
theorem kw_2235 : Cond.instanceMethod ({ cls := "TimberValleyModel", name := "day", desc := "()I" } : MethodName) ∈ gw := gw_m (lt_9 196 rfl) rfl
theorem kw_2236 : Cond.selects "TimberValleyModel" ({ cls := "TimberValleyModel", name := "day", desc := "()I" } : MethodName) ({ cls := "TimberValleyModel", name := "day", desc := "()I" } : MethodName) ∈ gw := gw_m (lt_9 197 rfl) rfl
theorem kw_2237 : Cond.code ({ cls := "TimberValleyModel", name := "day", desc := "()I" } : MethodName) prog_14_method_72_code 3 (Option.some FieldType.int) ∈ gw := gw_m (lt_9 198 rfl) rfl
theorem kw_2238 : Cond.methodLink "TimberValleyModel" 477 ({ cls := "TimberValleyModel", name := "carries", desc := "(I)I" } : MethodName) ∈ gw := gw_m (lt_9 199 rfl) rfl
theorem kw_2240 : Cond.instanceMethod ({ cls := "TimberValleyModel", name := "carries", desc := "(I)I" } : MethodName) ∈ gw := gw_m (lt_9 201 rfl) rfl
theorem kw_2241 : Cond.code ({ cls := "TimberValleyModel", name := "carries", desc := "(I)I" } : MethodName) prog_14_method_71_code 6 (Option.some FieldType.int) ∈ gw := gw_m (lt_9 202 rfl) rfl
theorem kw_2242 : Cond.methodLink "TimberValleyModel" 298 ({ cls := "TimberValleyModel", name := "becomes", desc := "(II)V" } : MethodName) ∈ gw := gw_m (lt_9 203 rfl) rfl
theorem kw_2244 : Cond.instanceMethod ({ cls := "TimberValleyModel", name := "becomes", desc := "(II)V" } : MethodName) ∈ gw := gw_m (lt_9 205 rfl) rfl
theorem kw_2245 : Cond.code ({ cls := "TimberValleyModel", name := "becomes", desc := "(II)V" } : MethodName) prog_14_method_30_code 3 (Option.none : Option FieldType) ∈ gw := gw_m (lt_9 206 rfl) rfl
theorem kw_2246 : Cond.methodLink "TimberValleyModel" 480 ({ cls := "TimberValleyModel", name := "monthEnds", desc := "()V" } : MethodName) ∈ gw := gw_m (lt_9 207 rfl) rfl
theorem kw_2248 : Cond.instanceMethod ({ cls := "TimberValleyModel", name := "monthEnds", desc := "()V" } : MethodName) ∈ gw := gw_m (lt_9 209 rfl) rfl
theorem kw_2249 : Cond.code ({ cls := "TimberValleyModel", name := "monthEnds", desc := "()V" } : MethodName) prog_14_method_77_code 3 (Option.none : Option FieldType) ∈ gw := gw_m (lt_9 210 rfl) rfl
theorem kw_2250 : Cond.methodLink "TimberValleyModel" 483 ({ cls := "TimberValleyModel", name := "yearEnds", desc := "()V" } : MethodName) ∈ gw := gw_m (lt_9 211 rfl) rfl
theorem kw_2252 : Cond.instanceMethod ({ cls := "TimberValleyModel", name := "yearEnds", desc := "()V" } : MethodName) ∈ gw := gw_m (lt_9 213 rfl) rfl
theorem kw_2253 : Cond.code ({ cls := "TimberValleyModel", name := "yearEnds", desc := "()V" } : MethodName) prog_14_method_73_code 6 (Option.none : Option FieldType) ∈ gw := gw_m (lt_9 214 rfl) rfl
theorem kw_2254 : Cond.methodLink "TimberValleyLaw" 134 ({ cls := "TimberValleyModel", name := "crew", desc := "(I)I" } : MethodName) ∈ gw := gw_m (lt_9 215 rfl) rfl
theorem kw_2255 : Cond.instanceMethod ({ cls := "TimberValleyModel", name := "crew", desc := "(I)I" } : MethodName) ∈ gw := gw_m (lt_9 216 rfl) rfl
theorem kw_2256 : Cond.selects "TimberValleyModel" ({ cls := "TimberValleyModel", name := "crew", desc := "(I)I" } : MethodName) ({ cls := "TimberValleyModel", name := "crew", desc := "(I)I" } : MethodName) ∈ gw := gw_m (lt_9 217 rfl) rfl
theorem kw_2257 : Cond.code ({ cls := "TimberValleyModel", name := "crew", desc := "(I)I" } : MethodName) prog_14_method_75_code 2 (Option.some FieldType.int) ∈ gw := gw_m (lt_9 218 rfl) rfl
theorem kw_2258 : Cond.methodLink "TimberValleyLaw" 138 ({ cls := "TimberValleyModel", name := "shop", desc := "(II)I" } : MethodName) ∈ gw := gw_m (lt_9 219 rfl) rfl
theorem kw_2259 : Cond.instanceMethod ({ cls := "TimberValleyModel", name := "shop", desc := "(II)I" } : MethodName) ∈ gw := gw_m (lt_9 220 rfl) rfl
theorem kw_2260 : Cond.selects "TimberValleyModel" ({ cls := "TimberValleyModel", name := "shop", desc := "(II)I" } : MethodName) ({ cls := "TimberValleyModel", name := "shop", desc := "(II)I" } : MethodName) ∈ gw := gw_m (lt_9 221 rfl) rfl
theorem kw_2261 : Cond.code ({ cls := "TimberValleyModel", name := "shop", desc := "(II)I" } : MethodName) prog_14_method_76_code 3 (Option.some FieldType.int) ∈ gw := gw_m (lt_9 222 rfl) rfl
theorem kw_2262 : Cond.methodLink "TimberValleyLaw" 142 ({ cls := "TimberValleyModel", name := "leave", desc := "(I)I" } : MethodName) ∈ gw := gw_m (lt_9 223 rfl) rfl
theorem kw_2263 : Cond.instanceMethod ({ cls := "TimberValleyModel", name := "leave", desc := "(I)I" } : MethodName) ∈ gw := gw_m (lt_9 224 rfl) rfl
theorem kw_2264 : Cond.selects "TimberValleyModel" ({ cls := "TimberValleyModel", name := "leave", desc := "(I)I" } : MethodName) ({ cls := "TimberValleyModel", name := "leave", desc := "(I)I" } : MethodName) ∈ gw := gw_m (lt_9 225 rfl) rfl
theorem kw_2265 : Cond.code ({ cls := "TimberValleyModel", name := "leave", desc := "(I)I" } : MethodName) prog_14_method_78_code 3 (Option.some FieldType.int) ∈ gw := gw_m (lt_9 226 rfl) rfl
theorem kw_2266 : Cond.constant "TimberValleyModel" 489 (-1000000 : Int32) ∈ gw := gw_m (lt_9 227 rfl) rfl
theorem kw_2267 : Cond.methodLink "TimberValleyLaw" 146 ({ cls := "TimberValleyModel", name := "lease", desc := "(I)Z" } : MethodName) ∈ gw := gw_m (lt_9 228 rfl) rfl
theorem kw_2268 : Cond.instanceMethod ({ cls := "TimberValleyModel", name := "lease", desc := "(I)Z" } : MethodName) ∈ gw := gw_m (lt_9 229 rfl) rfl
theorem kw_2269 : Cond.selects "TimberValleyModel" ({ cls := "TimberValleyModel", name := "lease", desc := "(I)Z" } : MethodName) ({ cls := "TimberValleyModel", name := "lease", desc := "(I)Z" } : MethodName) ∈ gw := gw_m (lt_9 230 rfl) rfl
theorem kw_2270 : Cond.code ({ cls := "TimberValleyModel", name := "lease", desc := "(I)Z" } : MethodName) prog_14_method_79_code 2 (Option.some FieldType.boolean) ∈ gw := gw_m (lt_9 231 rfl) rfl
theorem kw_2271 : Cond.methodLink "TimberValleyLaw" 150 ({ cls := "TimberValleyModel", name := "scale", desc := "(II)I" } : MethodName) ∈ gw := gw_m (lt_9 232 rfl) rfl
theorem kw_2272 : Cond.instanceMethod ({ cls := "TimberValleyModel", name := "scale", desc := "(II)I" } : MethodName) ∈ gw := gw_m (lt_9 233 rfl) rfl
theorem kw_2273 : Cond.selects "TimberValleyModel" ({ cls := "TimberValleyModel", name := "scale", desc := "(II)I" } : MethodName) ({ cls := "TimberValleyModel", name := "scale", desc := "(II)I" } : MethodName) ∈ gw := gw_m (lt_9 234 rfl) rfl
theorem kw_2274 : Cond.code ({ cls := "TimberValleyModel", name := "scale", desc := "(II)I" } : MethodName) prog_14_method_81_code 3 (Option.some FieldType.int) ∈ gw := gw_m (lt_9 235 rfl) rfl
theorem kw_2275 : Cond.methodLink "TimberValleyModel" 493 ({ cls := "TimberValleyModel", name := "scaleOf", desc := "(II)I" } : MethodName) ∈ gw := gw_m (lt_9 236 rfl) rfl
theorem kw_2277 : Cond.instanceMethod ({ cls := "TimberValleyModel", name := "scaleOf", desc := "(II)I" } : MethodName) ∈ gw := gw_m (lt_9 238 rfl) rfl
theorem kw_2278 : Cond.code ({ cls := "TimberValleyModel", name := "scaleOf", desc := "(II)I" } : MethodName) prog_14_method_80_code 4 (Option.some FieldType.int) ∈ gw := gw_m (lt_9 239 rfl) rfl
theorem kw_2279 : Cond.methodLink "TimberValleyLaw" 74 ({ cls := "TimberValleyModel", name := "fall", desc := "(IIIII)I" } : MethodName) ∈ gw := gw_m (lt_10 0 rfl) rfl
theorem kw_2280 : Cond.instanceMethod ({ cls := "TimberValleyModel", name := "fall", desc := "(IIIII)I" } : MethodName) ∈ gw := gw_m (lt_10 1 rfl) rfl
theorem kw_2281 : Cond.selects "TimberValleyModel" ({ cls := "TimberValleyModel", name := "fall", desc := "(IIIII)I" } : MethodName) ({ cls := "TimberValleyModel", name := "fall", desc := "(IIIII)I" } : MethodName) ∈ gw := gw_m (lt_10 2 rfl) rfl
theorem kw_2282 : Cond.code ({ cls := "TimberValleyModel", name := "fall", desc := "(IIIII)I" } : MethodName) prog_14_method_82_code 10 (Option.some FieldType.int) ∈ gw := gw_m (lt_10 3 rfl) rfl
theorem kw_2283 : Cond.methodLink "TimberValleyModel" 496 ({ cls := "TimberValleyModel", name := "falls", desc := "(IIIII)V" } : MethodName) ∈ gw := gw_m (lt_10 4 rfl) rfl
theorem kw_2285 : Cond.instanceMethod ({ cls := "TimberValleyModel", name := "falls", desc := "(IIIII)V" } : MethodName) ∈ gw := gw_m (lt_10 6 rfl) rfl
theorem kw_2286 : Cond.code ({ cls := "TimberValleyModel", name := "falls", desc := "(IIIII)V" } : MethodName) prog_14_method_32_code 9 (Option.none : Option FieldType) ∈ gw := gw_m (lt_10 7 rfl) rfl
theorem kw_2287 : Cond.methodLink "TimberValleyLaw" 154 ({ cls := "TimberValleyModel", name := "found", desc := "(III)Z" } : MethodName) ∈ gw := gw_m (lt_10 8 rfl) rfl
theorem kw_2288 : Cond.instanceMethod ({ cls := "TimberValleyModel", name := "found", desc := "(III)Z" } : MethodName) ∈ gw := gw_m (lt_10 9 rfl) rfl
theorem kw_2289 : Cond.selects "TimberValleyModel" ({ cls := "TimberValleyModel", name := "found", desc := "(III)Z" } : MethodName) ({ cls := "TimberValleyModel", name := "found", desc := "(III)Z" } : MethodName) ∈ gw := gw_m (lt_10 10 rfl) rfl
theorem kw_2290 : Cond.code ({ cls := "TimberValleyModel", name := "found", desc := "(III)Z" } : MethodName) prog_14_method_83_code 4 (Option.some FieldType.boolean) ∈ gw := gw_m (lt_10 11 rfl) rfl
theorem kw_2291 : Cond.methodLink "TimberValleyLaw" 160 ({ cls := "TimberValleyModel", name := "hand", desc := "(II)I" } : MethodName) ∈ gw := gw_m (lt_10 12 rfl) rfl
theorem kw_2292 : Cond.instanceMethod ({ cls := "TimberValleyModel", name := "hand", desc := "(II)I" } : MethodName) ∈ gw := gw_m (lt_10 13 rfl) rfl
theorem kw_2293 : Cond.selects "TimberValleyModel" ({ cls := "TimberValleyModel", name := "hand", desc := "(II)I" } : MethodName) ({ cls := "TimberValleyModel", name := "hand", desc := "(II)I" } : MethodName) ∈ gw := gw_m (lt_10 14 rfl) rfl
theorem kw_2294 : Cond.code ({ cls := "TimberValleyModel", name := "hand", desc := "(II)I" } : MethodName) prog_14_method_84_code 9 (Option.some FieldType.int) ∈ gw := gw_m (lt_10 15 rfl) rfl
theorem kw_2295 : Cond.methodLink "TimberValleyModel" 503 ({ cls := "java/lang/Math", name := "floorDiv", desc := "(II)I" } : MethodName) ∈ gw := gw_m (lt_10 16 rfl) rfl
theorem kw_2296 : Cond.methodLink "TimberValleyLaw" 167 ({ cls := "TimberValleyModel", name := "order", desc := "(IIIII)I" } : MethodName) ∈ gw := gw_m (lt_10 17 rfl) rfl
theorem kw_2297 : Cond.instanceMethod ({ cls := "TimberValleyModel", name := "order", desc := "(IIIII)I" } : MethodName) ∈ gw := gw_m (lt_10 18 rfl) rfl
theorem kw_2298 : Cond.selects "TimberValleyModel" ({ cls := "TimberValleyModel", name := "order", desc := "(IIIII)I" } : MethodName) ({ cls := "TimberValleyModel", name := "order", desc := "(IIIII)I" } : MethodName) ∈ gw := gw_m (lt_10 19 rfl) rfl
theorem kw_2299 : Cond.code ({ cls := "TimberValleyModel", name := "order", desc := "(IIIII)I" } : MethodName) prog_14_method_85_code 6 (Option.some FieldType.int) ∈ gw := gw_m (lt_10 20 rfl) rfl
theorem kw_2300 : Cond.methodLink "TimberValleyLaw" 171 ({ cls := "TimberValleyModel", name := "best", desc := "(I)I" } : MethodName) ∈ gw := gw_m (lt_10 21 rfl) rfl
theorem kw_2301 : Cond.instanceMethod ({ cls := "TimberValleyModel", name := "best", desc := "(I)I" } : MethodName) ∈ gw := gw_m (lt_10 22 rfl) rfl
theorem kw_2302 : Cond.selects "TimberValleyModel" ({ cls := "TimberValleyModel", name := "best", desc := "(I)I" } : MethodName) ({ cls := "TimberValleyModel", name := "best", desc := "(I)I" } : MethodName) ∈ gw := gw_m (lt_10 23 rfl) rfl
theorem kw_2303 : Cond.code ({ cls := "TimberValleyModel", name := "best", desc := "(I)I" } : MethodName) prog_14_method_90_code 2 (Option.some FieldType.int) ∈ gw := gw_m (lt_10 24 rfl) rfl
theorem kw_2304 : Cond.methodLink "TimberValleyModel" 520 ({ cls := "TimberValleyModel", name := "isInPond", desc := "(I)Z" } : MethodName) ∈ gw := gw_m (lt_10 25 rfl) rfl
theorem kw_2306 : Cond.instanceMethod ({ cls := "TimberValleyModel", name := "isInPond", desc := "(I)Z" } : MethodName) ∈ gw := gw_m (lt_10 27 rfl) rfl
theorem kw_2307 : Cond.code ({ cls := "TimberValleyModel", name := "isInPond", desc := "(I)Z" } : MethodName) prog_14_method_89_code 2 (Option.some FieldType.boolean) ∈ gw := gw_m (lt_10 28 rfl) rfl
theorem kw_2308 : Cond.methodLink "TimberValleyModel" 523 ({ cls := "TimberValleyModel", name := "lays", desc := "(I)I" } : MethodName) ∈ gw := gw_m (lt_10 29 rfl) rfl
theorem kw_2310 : Cond.instanceMethod ({ cls := "TimberValleyModel", name := "lays", desc := "(I)I" } : MethodName) ∈ gw := gw_m (lt_10 31 rfl) rfl
theorem kw_2311 : Cond.code ({ cls := "TimberValleyModel", name := "lays", desc := "(I)I" } : MethodName) prog_14_method_87_code 5 (Option.some FieldType.int) ∈ gw := gw_m (lt_10 32 rfl) rfl
theorem kw_2312 : Cond.methodLink "TimberValleyModel" 511 ({ cls := "TimberValleyModel", name := "canBe", desc := "(III)Z" } : MethodName) ∈ gw := gw_m (lt_10 33 rfl) rfl
theorem kw_2314 : Cond.instanceMethod ({ cls := "TimberValleyModel", name := "canBe", desc := "(III)Z" } : MethodName) ∈ gw := gw_m (lt_10 35 rfl) rfl
theorem kw_2315 : Cond.code ({ cls := "TimberValleyModel", name := "canBe", desc := "(III)Z" } : MethodName) prog_14_method_86_code 5 (Option.some FieldType.boolean) ∈ gw := gw_m (lt_10 36 rfl) rfl
theorem kw_2316 : Cond.methodLink "TimberValleyModel" 514 ({ cls := "TimberValleyModel", name := "afterBoard", desc := "(III)I" } : MethodName) ∈ gw := gw_m (lt_10 37 rfl) rfl
theorem kw_2318 : Cond.instanceMethod ({ cls := "TimberValleyModel", name := "afterBoard", desc := "(III)I" } : MethodName) ∈ gw := gw_m (lt_10 39 rfl) rfl
theorem kw_2319 : Cond.code ({ cls := "TimberValleyModel", name := "afterBoard", desc := "(III)I" } : MethodName) prog_14_method_88_code 4 (Option.some FieldType.int) ∈ gw := gw_m (lt_10 40 rfl) rfl
theorem kw_2320 : Cond.methodLink "TimberValleyModel" 517 ({ cls := "java/lang/Math", name := "max", desc := "(II)I" } : MethodName) ∈ gw := gw_m (lt_10 41 rfl) rfl
theorem kw_2321 : Cond.methodLink "TimberValleyLaw" 175 ({ cls := "TimberValleyModel", name := "board", desc := "(II)I" } : MethodName) ∈ gw := gw_m (lt_10 42 rfl) rfl
theorem kw_2322 : Cond.instanceMethod ({ cls := "TimberValleyModel", name := "board", desc := "(II)I" } : MethodName) ∈ gw := gw_m (lt_10 43 rfl) rfl
theorem kw_2323 : Cond.selects "TimberValleyModel" ({ cls := "TimberValleyModel", name := "board", desc := "(II)I" } : MethodName) ({ cls := "TimberValleyModel", name := "board", desc := "(II)I" } : MethodName) ∈ gw := gw_m (lt_10 44 rfl) rfl
theorem kw_2324 : Cond.code ({ cls := "TimberValleyModel", name := "board", desc := "(II)I" } : MethodName) prog_14_method_91_code 3 (Option.some FieldType.int) ∈ gw := gw_m (lt_10 45 rfl) rfl
theorem kw_2325 : Cond.methodLink "TimberValleyLaw" 179 ({ cls := "TimberValleyModel", name := "saw", desc := "(I)I" } : MethodName) ∈ gw := gw_m (lt_10 46 rfl) rfl
theorem kw_2326 : Cond.instanceMethod ({ cls := "TimberValleyModel", name := "saw", desc := "(I)I" } : MethodName) ∈ gw := gw_m (lt_10 47 rfl) rfl
theorem kw_2327 : Cond.selects "TimberValleyModel" ({ cls := "TimberValleyModel", name := "saw", desc := "(I)I" } : MethodName) ({ cls := "TimberValleyModel", name := "saw", desc := "(I)I" } : MethodName) ∈ gw := gw_m (lt_10 48 rfl) rfl
theorem kw_2328 : Cond.code ({ cls := "TimberValleyModel", name := "saw", desc := "(I)I" } : MethodName) prog_14_method_92_code 5 (Option.some FieldType.int) ∈ gw := gw_m (lt_10 49 rfl) rfl
theorem kw_2329 : Cond.methodLink "TimberValleyLaw" 255 ({ cls := "TimberValleyModel", name := "orderOf", desc := "(II)I" } : MethodName) ∈ gw := gw_m (lt_10 50 rfl) rfl
theorem kw_2330 : Cond.instanceMethod ({ cls := "TimberValleyModel", name := "orderOf", desc := "(II)I" } : MethodName) ∈ gw := gw_m (lt_10 51 rfl) rfl
theorem kw_2331 : Cond.selects "TimberValleyModel" ({ cls := "TimberValleyModel", name := "orderOf", desc := "(II)I" } : MethodName) ({ cls := "TimberValleyModel", name := "orderOf", desc := "(II)I" } : MethodName) ∈ gw := gw_m (lt_10 52 rfl) rfl
theorem kw_2332 : Cond.code ({ cls := "TimberValleyModel", name := "orderOf", desc := "(II)I" } : MethodName) prog_14_method_93_code 4 (Option.some FieldType.int) ∈ gw := gw_m (lt_10 53 rfl) rfl
theorem kw_2333 : Cond.methodLink "TimberValleyLaw" 183 ({ cls := "TimberValleyModel", name := "fire", desc := "(III)I" } : MethodName) ∈ gw := gw_m (lt_10 54 rfl) rfl
theorem kw_2334 : Cond.instanceMethod ({ cls := "TimberValleyModel", name := "fire", desc := "(III)I" } : MethodName) ∈ gw := gw_m (lt_10 55 rfl) rfl
theorem kw_2335 : Cond.selects "TimberValleyModel" ({ cls := "TimberValleyModel", name := "fire", desc := "(III)I" } : MethodName) ({ cls := "TimberValleyModel", name := "fire", desc := "(III)I" } : MethodName) ∈ gw := gw_m (lt_10 56 rfl) rfl
theorem kw_2336 : Cond.code ({ cls := "TimberValleyModel", name := "fire", desc := "(III)I" } : MethodName) prog_14_method_96_code 4 (Option.some FieldType.int) ∈ gw := gw_m (lt_10 57 rfl) rfl
theorem kw_2337 : Cond.methodLink "TimberValleyModel" 534 ({ cls := "TimberValleyModel", name := "fires", desc := "(III)I" } : MethodName) ∈ gw := gw_m (lt_10 58 rfl) rfl
theorem kw_2339 : Cond.instanceMethod ({ cls := "TimberValleyModel", name := "fires", desc := "(III)I" } : MethodName) ∈ gw := gw_m (lt_10 60 rfl) rfl
theorem kw_2340 : Cond.code ({ cls := "TimberValleyModel", name := "fires", desc := "(III)I" } : MethodName) prog_14_method_95_code 7 (Option.some FieldType.int) ∈ gw := gw_m (lt_10 61 rfl) rfl
theorem kw_2341 : Cond.methodLink "TimberValleyModel" 528 ({ cls := "TimberValleyModel", name := "stemsOf", desc := "(I)I" } : MethodName) ∈ gw := gw_m (lt_10 62 rfl) rfl
theorem kw_2343 : Cond.instanceMethod ({ cls := "TimberValleyModel", name := "stemsOf", desc := "(I)I" } : MethodName) ∈ gw := gw_m (lt_10 64 rfl) rfl
theorem kw_2344 : Cond.code ({ cls := "TimberValleyModel", name := "stemsOf", desc := "(I)I" } : MethodName) prog_14_method_16_code 4 (Option.some FieldType.int) ∈ gw := gw_m (lt_10 65 rfl) rfl
theorem kw_2345 : Cond.methodLink "TimberValleyModel" 531 ({ cls := "TimberValleyModel", name := "fuel", desc := "(III)I" } : MethodName) ∈ gw := gw_m (lt_10 66 rfl) rfl
theorem kw_2347 : Cond.instanceMethod ({ cls := "TimberValleyModel", name := "fuel", desc := "(III)I" } : MethodName) ∈ gw := gw_m (lt_10 68 rfl) rfl
theorem kw_2348 : Cond.code ({ cls := "TimberValleyModel", name := "fuel", desc := "(III)I" } : MethodName) prog_14_method_94_code 7 (Option.some FieldType.int) ∈ gw := gw_m (lt_10 69 rfl) rfl
theorem kw_2349 : Cond.methodLink "TimberValleyLaw" 187 ({ cls := "TimberValleyModel", name := "burn", desc := "(I)I" } : MethodName) ∈ gw := gw_m (lt_10 70 rfl) rfl
theorem kw_2350 : Cond.instanceMethod ({ cls := "TimberValleyModel", name := "burn", desc := "(I)I" } : MethodName) ∈ gw := gw_m (lt_10 71 rfl) rfl
theorem kw_2351 : Cond.selects "TimberValleyModel" ({ cls := "TimberValleyModel", name := "burn", desc := "(I)I" } : MethodName) ({ cls := "TimberValleyModel", name := "burn", desc := "(I)I" } : MethodName) ∈ gw := gw_m (lt_10 72 rfl) rfl
theorem kw_2352 : Cond.code ({ cls := "TimberValleyModel", name := "burn", desc := "(I)I" } : MethodName) prog_14_method_97_code 2 (Option.some FieldType.int) ∈ gw := gw_m (lt_10 73 rfl) rfl
theorem kw_2353 : Cond.methodLink "TimberValleyLaw" 191 ({ cls := "TimberValleyModel", name := "spur", desc := "(III)I" } : MethodName) ∈ gw := gw_m (lt_10 74 rfl) rfl
theorem kw_2354 : Cond.instanceMethod ({ cls := "TimberValleyModel", name := "spur", desc := "(III)I" } : MethodName) ∈ gw := gw_m (lt_10 75 rfl) rfl
theorem kw_2355 : Cond.selects "TimberValleyModel" ({ cls := "TimberValleyModel", name := "spur", desc := "(III)I" } : MethodName) ({ cls := "TimberValleyModel", name := "spur", desc := "(III)I" } : MethodName) ∈ gw := gw_m (lt_10 76 rfl) rfl
theorem kw_2356 : Cond.code ({ cls := "TimberValleyModel", name := "spur", desc := "(III)I" } : MethodName) prog_14_method_98_code 4 (Option.some FieldType.int) ∈ gw := gw_m (lt_10 77 rfl) rfl
theorem kw_2357 : Cond.methodLink "TimberValleyLaw" 195 ({ cls := "TimberValleyModel", name := "asked", desc := "(II)Z" } : MethodName) ∈ gw := gw_m (lt_10 78 rfl) rfl
theorem kw_2358 : Cond.instanceMethod ({ cls := "TimberValleyModel", name := "asked", desc := "(II)Z" } : MethodName) ∈ gw := gw_m (lt_10 79 rfl) rfl
theorem kw_2359 : Cond.selects "TimberValleyModel" ({ cls := "TimberValleyModel", name := "asked", desc := "(II)Z" } : MethodName) ({ cls := "TimberValleyModel", name := "asked", desc := "(II)Z" } : MethodName) ∈ gw := gw_m (lt_10 80 rfl) rfl
theorem kw_2360 : Cond.code ({ cls := "TimberValleyModel", name := "asked", desc := "(II)Z" } : MethodName) prog_14_method_99_code 3 (Option.some FieldType.boolean) ∈ gw := gw_m (lt_10 81 rfl) rfl
theorem kw_2361 : Cond.methodLink "TimberValleyLaw" 199 ({ cls := "TimberValleyModel", name := "rails", desc := "(I)I" } : MethodName) ∈ gw := gw_m (lt_10 82 rfl) rfl
theorem kw_2362 : Cond.instanceMethod ({ cls := "TimberValleyModel", name := "rails", desc := "(I)I" } : MethodName) ∈ gw := gw_m (lt_10 83 rfl) rfl
theorem kw_2363 : Cond.selects "TimberValleyModel" ({ cls := "TimberValleyModel", name := "rails", desc := "(I)I" } : MethodName) ({ cls := "TimberValleyModel", name := "rails", desc := "(I)I" } : MethodName) ∈ gw := gw_m (lt_10 84 rfl) rfl
theorem kw_2364 : Cond.code ({ cls := "TimberValleyModel", name := "rails", desc := "(I)I" } : MethodName) prog_14_method_105_code 2 (Option.some FieldType.int) ∈ gw := gw_m (lt_10 85 rfl) rfl
theorem kw_2365 : Cond.methodLink "TimberValleyModel" 555 ({ cls := "TimberValleyModel", name := "plansRails", desc := "(I)V" } : MethodName) ∈ gw := gw_m (lt_10 86 rfl) rfl
theorem kw_2367 : Cond.instanceMethod ({ cls := "TimberValleyModel", name := "plansRails", desc := "(I)V" } : MethodName) ∈ gw := gw_m (lt_10 88 rfl) rfl
theorem kw_2368 : Cond.code ({ cls := "TimberValleyModel", name := "plansRails", desc := "(I)V" } : MethodName) prog_14_method_104_code 8 (Option.none : Option FieldType) ∈ gw := gw_m (lt_10 89 rfl) rfl
theorem kw_2369 : Cond.methodLink "TimberValleyModel" 544 ({ cls := "TimberValleyModel", name := "layCost", desc := "(I)I" } : MethodName) ∈ gw := gw_m (lt_10 90 rfl) rfl
theorem kw_2371 : Cond.instanceMethod ({ cls := "TimberValleyModel", name := "layCost", desc := "(I)I" } : MethodName) ∈ gw := gw_m (lt_10 92 rfl) rfl
theorem kw_2372 : Cond.code ({ cls := "TimberValleyModel", name := "layCost", desc := "(I)I" } : MethodName) prog_14_method_101_code 4 (Option.some FieldType.int) ∈ gw := gw_m (lt_10 93 rfl) rfl
theorem kw_2373 : Cond.methodLink "TimberValleyModel" 540 ({ cls := "TimberValleyModel", name := "ironOf", desc := "(I)I" } : MethodName) ∈ gw := gw_m (lt_10 94 rfl) rfl
theorem kw_2375 : Cond.instanceMethod ({ cls := "TimberValleyModel", name := "ironOf", desc := "(I)I" } : MethodName) ∈ gw := gw_m (lt_10 96 rfl) rfl
theorem kw_2376 : Cond.code ({ cls := "TimberValleyModel", name := "ironOf", desc := "(I)I" } : MethodName) prog_14_method_100_code 4 (Option.some FieldType.int) ∈ gw := gw_m (lt_10 97 rfl) rfl
theorem kw_2377 : Cond.constant "TimberValleyModel" 543 (100000000 : Int32) ∈ gw := gw_m (lt_10 98 rfl) rfl
theorem kw_2378 : Cond.methodLink "TimberValleyModel" 547 ({ cls := "TimberValleyModel", name := "cellsOf", desc := "(I)I" } : MethodName) ∈ gw := gw_m (lt_10 99 rfl) rfl
theorem kw_2380 : Cond.instanceMethod ({ cls := "TimberValleyModel", name := "cellsOf", desc := "(I)I" } : MethodName) ∈ gw := gw_m (lt_10 101 rfl) rfl
theorem kw_2381 : Cond.code ({ cls := "TimberValleyModel", name := "cellsOf", desc := "(I)I" } : MethodName) prog_14_method_102_code 4 (Option.some FieldType.int) ∈ gw := gw_m (lt_10 102 rfl) rfl
theorem kw_2382 : Cond.methodLink "TimberValleyModel" 550 ({ cls := "java/lang/Integer", name := "bitCount", desc := "(I)I" } : MethodName) ∈ gw := gw_m (lt_10 103 rfl) rfl
theorem kw_2383 : Cond.methodLink "TimberValleyLaw" 203 ({ cls := "TimberValleyModel", name := "railsOf", desc := "(II)I" } : MethodName) ∈ gw := gw_m (lt_10 104 rfl) rfl
theorem kw_2384 : Cond.instanceMethod ({ cls := "TimberValleyModel", name := "railsOf", desc := "(II)I" } : MethodName) ∈ gw := gw_m (lt_10 105 rfl) rfl
theorem kw_2385 : Cond.selects "TimberValleyModel" ({ cls := "TimberValleyModel", name := "railsOf", desc := "(II)I" } : MethodName) ({ cls := "TimberValleyModel", name := "railsOf", desc := "(II)I" } : MethodName) ∈ gw := gw_m (lt_10 106 rfl) rfl
theorem kw_2386 : Cond.code ({ cls := "TimberValleyModel", name := "railsOf", desc := "(II)I" } : MethodName) prog_14_method_106_code 6 (Option.some FieldType.int) ∈ gw := gw_m (lt_10 107 rfl) rfl
theorem kw_2387 : Cond.methodLink "TimberValleyModel" 558 ({ cls := "TimberValleyModel", name := "costs", desc := "(IIII)I" } : MethodName) ∈ gw := gw_m (lt_10 108 rfl) rfl
theorem kw_2389 : Cond.instanceMethod ({ cls := "TimberValleyModel", name := "costs", desc := "(IIII)I" } : MethodName) ∈ gw := gw_m (lt_10 110 rfl) rfl
theorem kw_2390 : Cond.code ({ cls := "TimberValleyModel", name := "costs", desc := "(IIII)I" } : MethodName) prog_14_method_103_code 5 (Option.some FieldType.int) ∈ gw := gw_m (lt_10 111 rfl) rfl
theorem kw_2391 : Cond.methodLink "TimberValleyLaw" 208 ({ cls := "TimberValleyModel", name := "forty", desc := "(IIIIIII)I" } : MethodName) ∈ gw := gw_m (lt_10 112 rfl) rfl
theorem kw_2392 : Cond.instanceMethod ({ cls := "TimberValleyModel", name := "forty", desc := "(IIIIIII)I" } : MethodName) ∈ gw := gw_m (lt_10 113 rfl) rfl
theorem kw_2393 : Cond.selects "TimberValleyModel" ({ cls := "TimberValleyModel", name := "forty", desc := "(IIIIIII)I" } : MethodName) ({ cls := "TimberValleyModel", name := "forty", desc := "(IIIIIII)I" } : MethodName) ∈ gw := gw_m (lt_10 114 rfl) rfl
theorem kw_2394 : Cond.code ({ cls := "TimberValleyModel", name := "forty", desc := "(IIIIIII)I" } : MethodName) prog_14_method_111_code 16 (Option.some FieldType.int) ∈ gw := gw_m (lt_10 115 rfl) rfl
theorem kw_2395 : Cond.methodLink "TimberValleyModel" 581 ({ cls := "TimberValleyModel", name := "plansCuts", desc := "(I)V" } : MethodName) ∈ gw := gw_m (lt_10 116 rfl) rfl
theorem kw_2397 : Cond.instanceMethod ({ cls := "TimberValleyModel", name := "plansCuts", desc := "(I)V" } : MethodName) ∈ gw := gw_m (lt_10 118 rfl) rfl
theorem kw_2398 : Cond.code ({ cls := "TimberValleyModel", name := "plansCuts", desc := "(I)V" } : MethodName) prog_14_method_109_code 6 (Option.none : Option FieldType) ∈ gw := gw_m (lt_10 119 rfl) rfl
theorem kw_2399 : Cond.methodLink "TimberValleyModel" 568 ({ cls := "TimberValleyModel", name := "stateOf", desc := "(III)I" } : MethodName) ∈ gw := gw_m (lt_10 120 rfl) rfl
theorem kw_2400 : Cond.static ({ cls := "TimberValleyModel", name := "stateOf", desc := "(III)I" } : MethodName) ∈ gw := gw_m (lt_10 121 rfl) rfl
theorem kw_2401 : Cond.code ({ cls := "TimberValleyModel", name := "stateOf", desc := "(III)I" } : MethodName) prog_14_method_107_code 3 (Option.some FieldType.int) ∈ gw := gw_m (lt_10 122 rfl) rfl
theorem kw_2402 : Cond.methodLink "TimberValleyModel" 574 ({ cls := "TimberValleyModel", name := "bestCut", desc := "(IIII)I" } : MethodName) ∈ gw := gw_m (lt_10 123 rfl) rfl
theorem kw_2404 : Cond.instanceMethod ({ cls := "TimberValleyModel", name := "bestCut", desc := "(IIII)I" } : MethodName) ∈ gw := gw_m (lt_10 125 rfl) rfl
theorem kw_2405 : Cond.code ({ cls := "TimberValleyModel", name := "bestCut", desc := "(IIII)I" } : MethodName) prog_14_method_110_code 9 (Option.some FieldType.int) ∈ gw := gw_m (lt_10 126 rfl) rfl
theorem kw_2406 : Cond.methodLink "TimberValleyModel" 577 ({ cls := "TimberValleyModel", name := "withCut", desc := "(IIIIIII)I" } : MethodName) ∈ gw := gw_m (lt_10 127 rfl) rfl
theorem kw_2408 : Cond.instanceMethod ({ cls := "TimberValleyModel", name := "withCut", desc := "(IIIIIII)I" } : MethodName) ∈ gw := gw_m (lt_10 129 rfl) rfl
theorem kw_2409 : Cond.code ({ cls := "TimberValleyModel", name := "withCut", desc := "(IIIIIII)I" } : MethodName) prog_14_method_108_code 10 (Option.some FieldType.int) ∈ gw := gw_m (lt_10 130 rfl) rfl
theorem kw_2410 : Cond.methodLink "TimberValleyLaw" 212 ({ cls := "TimberValleyModel", name := "cutIn", desc := "(II)I" } : MethodName) ∈ gw := gw_m (lt_10 131 rfl) rfl
theorem kw_2411 : Cond.instanceMethod ({ cls := "TimberValleyModel", name := "cutIn", desc := "(II)I" } : MethodName) ∈ gw := gw_m (lt_10 132 rfl) rfl
theorem kw_2412 : Cond.selects "TimberValleyModel" ({ cls := "TimberValleyModel", name := "cutIn", desc := "(II)I" } : MethodName) ({ cls := "TimberValleyModel", name := "cutIn", desc := "(II)I" } : MethodName) ∈ gw := gw_m (lt_10 133 rfl) rfl
theorem kw_2413 : Cond.code ({ cls := "TimberValleyModel", name := "cutIn", desc := "(II)I" } : MethodName) prog_14_method_112_code 3 (Option.some FieldType.int) ∈ gw := gw_m (lt_10 134 rfl) rfl
theorem kw_2414 : Cond.methodLink "TimberValleyLaw" 217 ({ cls := "TimberValleyModel", name := "row", desc := "(IZI)Z" } : MethodName) ∈ gw := gw_m (lt_10 135 rfl) rfl
theorem kw_2415 : Cond.instanceMethod ({ cls := "TimberValleyModel", name := "row", desc := "(IZI)Z" } : MethodName) ∈ gw := gw_m (lt_10 136 rfl) rfl
theorem kw_2416 : Cond.selects "TimberValleyModel" ({ cls := "TimberValleyModel", name := "row", desc := "(IZI)Z" } : MethodName) ({ cls := "TimberValleyModel", name := "row", desc := "(IZI)Z" } : MethodName) ∈ gw := gw_m (lt_10 137 rfl) rfl
theorem kw_2417 : Cond.code ({ cls := "TimberValleyModel", name := "row", desc := "(IZI)Z" } : MethodName) prog_14_method_113_code 5 (Option.some FieldType.boolean) ∈ gw := gw_m (lt_10 138 rfl) rfl
theorem kw_2418 : Cond.methodLink "TimberValleyLaw" 221 ({ cls := "TimberValleyModel", name := "write", desc := "(III)Z" } : MethodName) ∈ gw := gw_m (lt_10 139 rfl) rfl
theorem kw_2419 : Cond.instanceMethod ({ cls := "TimberValleyModel", name := "write", desc := "(III)Z" } : MethodName) ∈ gw := gw_m (lt_10 140 rfl) rfl
theorem kw_2420 : Cond.selects "TimberValleyModel" ({ cls := "TimberValleyModel", name := "write", desc := "(III)Z" } : MethodName) ({ cls := "TimberValleyModel", name := "write", desc := "(III)Z" } : MethodName) ∈ gw := gw_m (lt_10 141 rfl) rfl
theorem kw_2421 : Cond.code ({ cls := "TimberValleyModel", name := "write", desc := "(III)Z" } : MethodName) prog_14_method_115_code 5 (Option.some FieldType.boolean) ∈ gw := gw_m (lt_10 142 rfl) rfl
theorem kw_2422 : Cond.methodLink "TimberValleyModel" 588 ({ cls := "TimberValleyModel", name := "isPlace", desc := "(II)Z" } : MethodName) ∈ gw := gw_m (lt_10 143 rfl) rfl
theorem kw_2424 : Cond.instanceMethod ({ cls := "TimberValleyModel", name := "isPlace", desc := "(II)Z" } : MethodName) ∈ gw := gw_m (lt_10 145 rfl) rfl
theorem kw_2425 : Cond.code ({ cls := "TimberValleyModel", name := "isPlace", desc := "(II)Z" } : MethodName) prog_14_method_114_code 3 (Option.some FieldType.boolean) ∈ gw := gw_m (lt_10 146 rfl) rfl
theorem kw_2426 : Cond.constant "TimberValleyModel" 591 (1000000 : Int32) ∈ gw := gw_m (lt_10 147 rfl) rfl
theorem kw_2427 : Cond.methodLink "TimberValleyLaw" 224 ({ cls := "TimberValleyModel", name := "each", desc := "(II)I" } : MethodName) ∈ gw := gw_m (lt_10 148 rfl) rfl
theorem kw_2428 : Cond.instanceMethod ({ cls := "TimberValleyModel", name := "each", desc := "(II)I" } : MethodName) ∈ gw := gw_m (lt_10 149 rfl) rfl
theorem kw_2429 : Cond.selects "TimberValleyModel" ({ cls := "TimberValleyModel", name := "each", desc := "(II)I" } : MethodName) ({ cls := "TimberValleyModel", name := "each", desc := "(II)I" } : MethodName) ∈ gw := gw_m (lt_10 150 rfl) rfl
theorem kw_2430 : Cond.code ({ cls := "TimberValleyModel", name := "each", desc := "(II)I" } : MethodName) prog_14_method_118_code 5 (Option.some FieldType.int) ∈ gw := gw_m (lt_10 151 rfl) rfl
theorem kw_2431 : Cond.methodLink "TimberValleyModel" 602 ({ cls := "TimberValleyModel", name := "told", desc := "(II)I" } : MethodName) ∈ gw := gw_m (lt_10 152 rfl) rfl
theorem kw_2433 : Cond.instanceMethod ({ cls := "TimberValleyModel", name := "told", desc := "(II)I" } : MethodName) ∈ gw := gw_m (lt_10 154 rfl) rfl
theorem kw_2434 : Cond.code ({ cls := "TimberValleyModel", name := "told", desc := "(II)I" } : MethodName) prog_14_method_117_code 3 (Option.some FieldType.int) ∈ gw := gw_m (lt_10 155 rfl) rfl
theorem kw_2435 : Cond.methodLink "TimberValleyModel" 598 ({ cls := "TimberValleyModel", name := "near", desc := "(III)V" } : MethodName) ∈ gw := gw_m (lt_10 156 rfl) rfl
theorem kw_2437 : Cond.instanceMethod ({ cls := "TimberValleyModel", name := "near", desc := "(III)V" } : MethodName) ∈ gw := gw_m (lt_10 158 rfl) rfl
theorem kw_2438 : Cond.code ({ cls := "TimberValleyModel", name := "near", desc := "(III)V" } : MethodName) prog_14_method_116_code 5 (Option.none : Option FieldType) ∈ gw := gw_m (lt_10 159 rfl) rfl
theorem kw_2439 : Cond.methodLink "TimberValleyLaw" 228 ({ cls := "TimberValleyModel", name := "cruise", desc := "(II)I" } : MethodName) ∈ gw := gw_m (lt_10 160 rfl) rfl
theorem kw_2440 : Cond.instanceMethod ({ cls := "TimberValleyModel", name := "cruise", desc := "(II)I" } : MethodName) ∈ gw := gw_m (lt_10 161 rfl) rfl
theorem kw_2441 : Cond.selects "TimberValleyModel" ({ cls := "TimberValleyModel", name := "cruise", desc := "(II)I" } : MethodName) ({ cls := "TimberValleyModel", name := "cruise", desc := "(II)I" } : MethodName) ∈ gw := gw_m (lt_10 162 rfl) rfl
theorem kw_2442 : Cond.code ({ cls := "TimberValleyModel", name := "cruise", desc := "(II)I" } : MethodName) prog_14_method_119_code 9 (Option.some FieldType.int) ∈ gw := gw_m (lt_10 163 rfl) rfl
theorem kw_2443 : Cond.methodLink "TimberValleyLaw" 244 ({ cls := "TimberValleyModel", name := "of", desc := "(II)I" } : MethodName) ∈ gw := gw_m (lt_10 164 rfl) rfl
theorem kw_2444 : Cond.instanceMethod ({ cls := "TimberValleyModel", name := "of", desc := "(II)I" } : MethodName) ∈ gw := gw_m (lt_10 165 rfl) rfl
theorem kw_2445 : Cond.selects "TimberValleyModel" ({ cls := "TimberValleyModel", name := "of", desc := "(II)I" } : MethodName) ({ cls := "TimberValleyModel", name := "of", desc := "(II)I" } : MethodName) ∈ gw := gw_m (lt_10 166 rfl) rfl
theorem kw_2446 : Cond.code ({ cls := "TimberValleyModel", name := "of", desc := "(II)I" } : MethodName) prog_14_method_120_code 5 (Option.some FieldType.int) ∈ gw := gw_m (lt_10 167 rfl) rfl
theorem kw_2447 : Cond.methodLink "TimberValleyLaw" 252 ({ cls := "TimberValleyModel", name := "crewOf", desc := "(II)I" } : MethodName) ∈ gw := gw_m (lt_10 168 rfl) rfl
theorem kw_2448 : Cond.instanceMethod ({ cls := "TimberValleyModel", name := "crewOf", desc := "(II)I" } : MethodName) ∈ gw := gw_m (lt_10 169 rfl) rfl
theorem kw_2449 : Cond.selects "TimberValleyModel" ({ cls := "TimberValleyModel", name := "crewOf", desc := "(II)I" } : MethodName) ({ cls := "TimberValleyModel", name := "crewOf", desc := "(II)I" } : MethodName) ∈ gw := gw_m (lt_10 170 rfl) rfl
theorem kw_2450 : Cond.code ({ cls := "TimberValleyModel", name := "crewOf", desc := "(II)I" } : MethodName) prog_14_method_121_code 3 (Option.some FieldType.int) ∈ gw := gw_m (lt_10 171 rfl) rfl
theorem kw_2451 : Cond.methodLink "TimberValleyLaw" 259 ({ cls := "TimberValleyModel", name := "count", desc := "(I)I" } : MethodName) ∈ gw := gw_m (lt_10 172 rfl) rfl
theorem kw_2452 : Cond.instanceMethod ({ cls := "TimberValleyModel", name := "count", desc := "(I)I" } : MethodName) ∈ gw := gw_m (lt_10 173 rfl) rfl
theorem kw_2453 : Cond.selects "TimberValleyModel" ({ cls := "TimberValleyModel", name := "count", desc := "(I)I" } : MethodName) ({ cls := "TimberValleyModel", name := "count", desc := "(I)I" } : MethodName) ∈ gw := gw_m (lt_10 174 rfl) rfl
theorem kw_2454 : Cond.code ({ cls := "TimberValleyModel", name := "count", desc := "(I)I" } : MethodName) prog_14_method_122_code 4 (Option.some FieldType.int) ∈ gw := gw_m (lt_10 175 rfl) rfl
theorem kw_2455 : Cond.arrayClass FieldType.long ∈ gw := gw_m (lt_10 176 rfl) rfl
theorem kw_2473 : Cond.fieldLink "java/lang/String" 15 "java/lang/String" "coder" "B" ∈ gw := gw_m (lt_10 194 rfl) rfl
theorem kw_2474 : Cond.fieldLink "java/lang/String" 9 "java/lang/String" "value" "[B" ∈ gw := gw_m (lt_10 195 rfl) rfl
set_option maxRecDepth 20000 in
theorem inw_0 : ∀ w ∈ u_ws RX0 TX0 5, w ∈ gw := List.forall_mem_cons.mpr ⟨kw_235, List.forall_mem_cons.mpr ⟨kw_237, List.forall_mem_cons.mpr ⟨kw_239, List.forall_mem_cons.mpr ⟨kw_241, List.forall_mem_cons.mpr ⟨kw_243, (fun _ h => absurd h List.not_mem_nil)⟩⟩⟩⟩⟩
set_option maxRecDepth 20000 in
theorem inw_1 : ∀ w ∈ u_ws RX1 TX1 5, w ∈ gw := List.forall_mem_cons.mpr ⟨kw_1198, List.forall_mem_cons.mpr ⟨kw_1200, List.forall_mem_cons.mpr ⟨kw_1202, List.forall_mem_cons.mpr ⟨kw_1204, List.forall_mem_cons.mpr ⟨kw_1206, (fun _ h => absurd h List.not_mem_nil)⟩⟩⟩⟩⟩
set_option maxRecDepth 20000 in
theorem inw_2 : ∀ w ∈ u_ws RX2 TX2 4, w ∈ gw := List.forall_mem_cons.mpr ⟨kw_449, List.forall_mem_cons.mpr ⟨kw_451, List.forall_mem_cons.mpr ⟨kw_453, List.forall_mem_cons.mpr ⟨kw_455, (fun _ h => absurd h List.not_mem_nil)⟩⟩⟩⟩
set_option maxRecDepth 20000 in
theorem inw_3 : ∀ w ∈ u_ws RX3 TX3 8, w ∈ gw := List.forall_mem_cons.mpr ⟨kw_204, List.forall_mem_cons.mpr ⟨kw_206, List.forall_mem_cons.mpr ⟨kw_208, List.forall_mem_cons.mpr ⟨kw_210, List.forall_mem_cons.mpr ⟨kw_212, List.forall_mem_cons.mpr ⟨kw_214, List.forall_mem_cons.mpr ⟨kw_216, List.forall_mem_cons.mpr ⟨kw_218, (fun _ h => absurd h List.not_mem_nil)⟩⟩⟩⟩⟩⟩⟩⟩
set_option maxRecDepth 20000 in
theorem inw_4 : ∀ w ∈ u_ws RX4 TX4 16, w ∈ gw := List.forall_mem_cons.mpr ⟨kw_730, List.forall_mem_cons.mpr ⟨kw_732, List.forall_mem_cons.mpr ⟨kw_734, List.forall_mem_cons.mpr ⟨kw_736, List.forall_mem_cons.mpr ⟨kw_738, List.forall_mem_cons.mpr ⟨kw_740, List.forall_mem_cons.mpr ⟨kw_742, List.forall_mem_cons.mpr ⟨kw_744, List.forall_mem_cons.mpr ⟨kw_746, List.forall_mem_cons.mpr ⟨kw_748, List.forall_mem_cons.mpr ⟨kw_750, List.forall_mem_cons.mpr ⟨kw_752, List.forall_mem_cons.mpr ⟨kw_754, List.forall_mem_cons.mpr ⟨kw_756, List.forall_mem_cons.mpr ⟨kw_758, List.forall_mem_cons.mpr ⟨kw_760, (fun _ h => absurd h List.not_mem_nil)⟩⟩⟩⟩⟩⟩⟩⟩⟩⟩⟩⟩⟩⟩⟩⟩
set_option maxRecDepth 20000 in
theorem inw_5 : ∀ w ∈ u_ws RX5 TX5 17, w ∈ gw := List.forall_mem_cons.mpr ⟨kw_404, List.forall_mem_cons.mpr ⟨kw_406, List.forall_mem_cons.mpr ⟨kw_408, List.forall_mem_cons.mpr ⟨kw_410, List.forall_mem_cons.mpr ⟨kw_412, List.forall_mem_cons.mpr ⟨kw_414, List.forall_mem_cons.mpr ⟨kw_416, List.forall_mem_cons.mpr ⟨kw_418, List.forall_mem_cons.mpr ⟨kw_420, List.forall_mem_cons.mpr ⟨kw_422, List.forall_mem_cons.mpr ⟨kw_424, List.forall_mem_cons.mpr ⟨kw_426, List.forall_mem_cons.mpr ⟨kw_428, List.forall_mem_cons.mpr ⟨kw_430, List.forall_mem_cons.mpr ⟨kw_432, List.forall_mem_cons.mpr ⟨kw_434, List.forall_mem_cons.mpr ⟨kw_436, (fun _ h => absurd h List.not_mem_nil)⟩⟩⟩⟩⟩⟩⟩⟩⟩⟩⟩⟩⟩⟩⟩⟩⟩
set_option maxRecDepth 20000 in
theorem inw_6 : ∀ w ∈ u_ws RX6 TX6 11, w ∈ gw := List.forall_mem_cons.mpr ⟨kw_351, List.forall_mem_cons.mpr ⟨kw_353, List.forall_mem_cons.mpr ⟨kw_355, List.forall_mem_cons.mpr ⟨kw_357, List.forall_mem_cons.mpr ⟨kw_359, List.forall_mem_cons.mpr ⟨kw_361, List.forall_mem_cons.mpr ⟨kw_363, List.forall_mem_cons.mpr ⟨kw_365, List.forall_mem_cons.mpr ⟨kw_367, List.forall_mem_cons.mpr ⟨kw_369, List.forall_mem_cons.mpr ⟨kw_371, (fun _ h => absurd h List.not_mem_nil)⟩⟩⟩⟩⟩⟩⟩⟩⟩⟩⟩
set_option maxRecDepth 20000 in
theorem inw_7 : ∀ w ∈ u_ws RX7 TX7 5, w ∈ gw := List.forall_mem_cons.mpr ⟨kw_167, List.forall_mem_cons.mpr ⟨kw_169, List.forall_mem_cons.mpr ⟨kw_171, List.forall_mem_cons.mpr ⟨kw_173, List.forall_mem_cons.mpr ⟨kw_175, (fun _ h => absurd h List.not_mem_nil)⟩⟩⟩⟩⟩
set_option maxRecDepth 20000 in
theorem inw_8 : ∀ w ∈ u_ws RX8 TX8 13, w ∈ gw := List.forall_mem_cons.mpr ⟨kw_297, List.forall_mem_cons.mpr ⟨kw_299, List.forall_mem_cons.mpr ⟨kw_301, List.forall_mem_cons.mpr ⟨kw_303, List.forall_mem_cons.mpr ⟨kw_305, List.forall_mem_cons.mpr ⟨kw_307, List.forall_mem_cons.mpr ⟨kw_309, List.forall_mem_cons.mpr ⟨kw_311, List.forall_mem_cons.mpr ⟨kw_313, List.forall_mem_cons.mpr ⟨kw_315, List.forall_mem_cons.mpr ⟨kw_317, List.forall_mem_cons.mpr ⟨kw_319, List.forall_mem_cons.mpr ⟨kw_321, (fun _ h => absurd h List.not_mem_nil)⟩⟩⟩⟩⟩⟩⟩⟩⟩⟩⟩⟩⟩
set_option maxRecDepth 20000 in
theorem inw_9 : ∀ w ∈ u_ws RX9 TX9 5, w ∈ gw := List.forall_mem_cons.mpr ⟨kw_264, List.forall_mem_cons.mpr ⟨kw_266, List.forall_mem_cons.mpr ⟨kw_268, List.forall_mem_cons.mpr ⟨kw_270, List.forall_mem_cons.mpr ⟨kw_272, (fun _ h => absurd h List.not_mem_nil)⟩⟩⟩⟩⟩
set_option maxRecDepth 20000 in
theorem inw_10 : ∀ w ∈ u_ws RX10 TX10 5, w ∈ gw := List.forall_mem_cons.mpr ⟨kw_828, List.forall_mem_cons.mpr ⟨kw_830, List.forall_mem_cons.mpr ⟨kw_832, List.forall_mem_cons.mpr ⟨kw_834, List.forall_mem_cons.mpr ⟨kw_836, (fun _ h => absurd h List.not_mem_nil)⟩⟩⟩⟩⟩
set_option maxRecDepth 20000 in
theorem inw_11 : ∀ w ∈ u_ws RX11 TX11 20, w ∈ gw := List.forall_mem_cons.mpr ⟨kw_478, List.forall_mem_cons.mpr ⟨kw_480, List.forall_mem_cons.mpr ⟨kw_482, List.forall_mem_cons.mpr ⟨kw_484, List.forall_mem_cons.mpr ⟨kw_486, List.forall_mem_cons.mpr ⟨kw_488, List.forall_mem_cons.mpr ⟨kw_490, List.forall_mem_cons.mpr ⟨kw_492, List.forall_mem_cons.mpr ⟨kw_494, List.forall_mem_cons.mpr ⟨kw_496, List.forall_mem_cons.mpr ⟨kw_498, List.forall_mem_cons.mpr ⟨kw_500, List.forall_mem_cons.mpr ⟨kw_502, List.forall_mem_cons.mpr ⟨kw_504, List.forall_mem_cons.mpr ⟨kw_506, List.forall_mem_cons.mpr ⟨kw_508, List.forall_mem_cons.mpr ⟨kw_510, List.forall_mem_cons.mpr ⟨kw_512, List.forall_mem_cons.mpr ⟨kw_514, List.forall_mem_cons.mpr ⟨kw_516, (fun _ h => absurd h List.not_mem_nil)⟩⟩⟩⟩⟩⟩⟩⟩⟩⟩⟩⟩⟩⟩⟩⟩⟩⟩⟩⟩
set_option maxRecDepth 20000 in
theorem inw_12 : ∀ w ∈ u_ws RX12 TX12 103, w ∈ gw := List.forall_mem_cons.mpr ⟨kw_1741, List.forall_mem_cons.mpr ⟨kw_1743, List.forall_mem_cons.mpr ⟨kw_1745, List.forall_mem_cons.mpr ⟨kw_1747, List.forall_mem_cons.mpr ⟨kw_1749, List.forall_mem_cons.mpr ⟨kw_1751, List.forall_mem_cons.mpr ⟨kw_1753, List.forall_mem_cons.mpr ⟨kw_1755, List.forall_mem_cons.mpr ⟨kw_1757, List.forall_mem_cons.mpr ⟨kw_1759, List.forall_mem_cons.mpr ⟨kw_1761, List.forall_mem_cons.mpr ⟨kw_1763, List.forall_mem_cons.mpr ⟨kw_1765, List.forall_mem_cons.mpr ⟨kw_1767, List.forall_mem_cons.mpr ⟨kw_1769, List.forall_mem_cons.mpr ⟨kw_1771, List.forall_mem_cons.mpr ⟨kw_1773, List.forall_mem_cons.mpr ⟨kw_1775, List.forall_mem_cons.mpr ⟨kw_1777, List.forall_mem_cons.mpr ⟨kw_1779, List.forall_mem_cons.mpr ⟨kw_1781, List.forall_mem_cons.mpr ⟨kw_1783, List.forall_mem_cons.mpr ⟨kw_1785, List.forall_mem_cons.mpr ⟨kw_1787, List.forall_mem_cons.mpr ⟨kw_1789, List.forall_mem_cons.mpr ⟨kw_1791, List.forall_mem_cons.mpr ⟨kw_1793, List.forall_mem_cons.mpr ⟨kw_1795, List.forall_mem_cons.mpr ⟨kw_1797, List.forall_mem_cons.mpr ⟨kw_1799, List.forall_mem_cons.mpr ⟨kw_1801, List.forall_mem_cons.mpr ⟨kw_1803, List.forall_mem_cons.mpr ⟨kw_1805, List.forall_mem_cons.mpr ⟨kw_1807, List.forall_mem_cons.mpr ⟨kw_1809, List.forall_mem_cons.mpr ⟨kw_1811, List.forall_mem_cons.mpr ⟨kw_1813, List.forall_mem_cons.mpr ⟨kw_1815, List.forall_mem_cons.mpr ⟨kw_1817, List.forall_mem_cons.mpr ⟨kw_1819, List.forall_mem_cons.mpr ⟨kw_1821, List.forall_mem_cons.mpr ⟨kw_1823, List.forall_mem_cons.mpr ⟨kw_1825, List.forall_mem_cons.mpr ⟨kw_1827, List.forall_mem_cons.mpr ⟨kw_1829, List.forall_mem_cons.mpr ⟨kw_1831, List.forall_mem_cons.mpr ⟨kw_1833, List.forall_mem_cons.mpr ⟨kw_1835, List.forall_mem_cons.mpr ⟨kw_1837, List.forall_mem_cons.mpr ⟨kw_1839, List.forall_mem_cons.mpr ⟨kw_1841, List.forall_mem_cons.mpr ⟨kw_1843, List.forall_mem_cons.mpr ⟨kw_1845, List.forall_mem_cons.mpr ⟨kw_1847, List.forall_mem_cons.mpr ⟨kw_1849, List.forall_mem_cons.mpr ⟨kw_1851, List.forall_mem_cons.mpr ⟨kw_1853, List.forall_mem_cons.mpr ⟨kw_1855, List.forall_mem_cons.mpr ⟨kw_1857, List.forall_mem_cons.mpr ⟨kw_1859, List.forall_mem_cons.mpr ⟨kw_1861, List.forall_mem_cons.mpr ⟨kw_1863, List.forall_mem_cons.mpr ⟨kw_1865, List.forall_mem_cons.mpr ⟨kw_1867, List.forall_mem_cons.mpr ⟨kw_1869, List.forall_mem_cons.mpr ⟨kw_1871, List.forall_mem_cons.mpr ⟨kw_1873, List.forall_mem_cons.mpr ⟨kw_1875, List.forall_mem_cons.mpr ⟨kw_1877, List.forall_mem_cons.mpr ⟨kw_1879, List.forall_mem_cons.mpr ⟨kw_1881, List.forall_mem_cons.mpr ⟨kw_1883, List.forall_mem_cons.mpr ⟨kw_1885, List.forall_mem_cons.mpr ⟨kw_1887, List.forall_mem_cons.mpr ⟨kw_1889, List.forall_mem_cons.mpr ⟨kw_1891, List.forall_mem_cons.mpr ⟨kw_1893, List.forall_mem_cons.mpr ⟨kw_1895, List.forall_mem_cons.mpr ⟨kw_1897, List.forall_mem_cons.mpr ⟨kw_1899, List.forall_mem_cons.mpr ⟨kw_1901, List.forall_mem_cons.mpr ⟨kw_1903, List.forall_mem_cons.mpr ⟨kw_1905, List.forall_mem_cons.mpr ⟨kw_1907, List.forall_mem_cons.mpr ⟨kw_1909, List.forall_mem_cons.mpr ⟨kw_1911, List.forall_mem_cons.mpr ⟨kw_1913, List.forall_mem_cons.mpr ⟨kw_1915, List.forall_mem_cons.mpr ⟨kw_1917, List.forall_mem_cons.mpr ⟨kw_1919, List.forall_mem_cons.mpr ⟨kw_1921, List.forall_mem_cons.mpr ⟨kw_1923, List.forall_mem_cons.mpr ⟨kw_1925, List.forall_mem_cons.mpr ⟨kw_1927, List.forall_mem_cons.mpr ⟨kw_1929, List.forall_mem_cons.mpr ⟨kw_1931, List.forall_mem_cons.mpr ⟨kw_1933, List.forall_mem_cons.mpr ⟨kw_1935, List.forall_mem_cons.mpr ⟨kw_1937, List.forall_mem_cons.mpr ⟨kw_1939, List.forall_mem_cons.mpr ⟨kw_1941, List.forall_mem_cons.mpr ⟨kw_1943, List.forall_mem_cons.mpr ⟨kw_1945, (fun _ h => absurd h List.not_mem_nil)⟩⟩⟩⟩⟩⟩⟩⟩⟩⟩⟩⟩⟩⟩⟩⟩⟩⟩⟩⟩⟩⟩⟩⟩⟩⟩⟩⟩⟩⟩⟩⟩⟩⟩⟩⟩⟩⟩⟩⟩⟩⟩⟩⟩⟩⟩⟩⟩⟩⟩⟩⟩⟩⟩⟩⟩⟩⟩⟩⟩⟩⟩⟩⟩⟩⟩⟩⟩⟩⟩⟩⟩⟩⟩⟩⟩⟩⟩⟩⟩⟩⟩⟩⟩⟩⟩⟩⟩⟩⟩⟩⟩⟩⟩⟩⟩⟩⟩⟩⟩⟩⟩⟩

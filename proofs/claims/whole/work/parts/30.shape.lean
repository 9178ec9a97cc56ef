/-! shape C: objects 0=TinyC, 1=TinyC$Scan, 2=TinyC$Reader, 3=TinyC$Desk, 4=TinyC$Names, 5=TinyC$Expressions, 6=TinyC$Tape, 7=TinyC$Machine, 8=TinyC$Walker, 9=TinyC$Program, 10=TinyC$Program, 11=TinyC$Tree, 12=TinyC$Tree, 13=TinyC$Code, 14=TinyC$Code -/
/- TinyC: 0=scan, 1=reader, 2=tape, 3=machine, 4=walker, 5=program, 6=spare -/
/- TinyC$Code: 0=cells, 1=size -/
/- TinyC$Desk: 0=scan, 1=names, 2=treeCells, 3=treeLeft, 4=open, 5=parameters -/
/- TinyC$Expressions: 0=desk, 1=scan, 2=names, 3=signs, 4=firsts, 5=holes, 6=top, 7=misused, 8=tree, 9=code -/
/- TinyC$Machine: 0=memory, 1=tape, 2=code, 3=pc, 4=sp, 5=fp, 6=status, 7=began -/
/- TinyC$Names: 0=words, 1=sorts, 2=places, 3=counts, 4=nodes, 5=size -/
/- TinyC$Program: 0=tree, 1=code, 2=globals, 3=main, 4=ready -/
/- TinyC$Reader: 0=desk, 1=scan, 2=names, 3=expressions, 4=program, 5=tree, 6=code, 7=function, 8=locals, 9=mostLocals -/
/- TinyC$Scan: 0=text, 1=size, 2=end, 3=kind, 4=place, 5=word, 6=number, 7=wrong -/
/- TinyC$Tape: 0=inputs, 1=outputs, 2=inputSize, 3=inputAt, 4=outputSize -/
/- TinyC$Tree: 0=kinds, 1=as, 2=bs, 3=cs, 4=ds, 5=nexts, 6=size -/
/- TinyC$Walker: 0=cells, 1=tape, 2=values, 3=whats, 4=nodes, 5=globals, 6=frameCells, 7=frameStarts, 8=tree, 9=globalCount, 10=valueCount, 11=itemCount, 12=frameCount, 13=frameEnd, 14=status, 15=began -/
/- arrays: 15=TinyC$Scan#1.text, 16=TinyC$Names#4.words, 17=TinyC$Names#4.sorts, 18=TinyC$Names#4.places, 19=TinyC$Names#4.counts, 20=TinyC$Names#4.nodes, 21=TinyC$Expressions#5.signs, 22=TinyC$Expressions#5.firsts, 23=TinyC$Expressions#5.holes, 24=TinyC$Tape#6.inputs, 25=TinyC$Tape#6.outputs, 26=TinyC$Machine#7.memory, 27=TinyC$Walker#8.values, 28=TinyC$Walker#8.whats, 29=TinyC$Walker#8.nodes, 30=TinyC$Walker#8.globals, 31=TinyC$Walker#8.frameCells, 32=TinyC$Walker#8.frameStarts, 33=TinyC$Tree#11.kinds, 34=TinyC$Tree#11.as, 35=TinyC$Tree#11.bs, 36=TinyC$Tree#11.cs, 37=TinyC$Tree#11.ds, 38=TinyC$Tree#11.nexts, 39=TinyC$Tree#12.kinds, 40=TinyC$Tree#12.as, 41=TinyC$Tree#12.bs, 42=TinyC$Tree#12.cs, 43=TinyC$Tree#12.ds, 44=TinyC$Tree#12.nexts, 45=TinyC$Code#13.cells, 46=TinyC$Code#14.cells -/
def kdC_l : List (List Nat) := [[4,5,9,10,11,2,2], [18,0,0,0,0,1,1,0], [6,4,7,8,2,2,2,0,0,0], [4,7,0,0,0,0], [19,20,21,22,23,0], [6,4,7,24,25,26,0,0,2,2], [27,28,0,0,0], [29,9,2,0,0,0,0,0], [0,9,30,31,32,33,34,35,2,0,0,0,0,0,0,0], [14,16,0,0,0], [15,17,0,0,0], [36,37,38,39,40,41,0], [42,43,44,45,46,47,0], [48,0], [49,0]]
def ocC_l : List Nat := [11,7,6,1,4,2,8,3,10,5,5,9,9,0,0]
def akC_l : List Nat := [0,0,0,0,0,0,0,0,0,0,0,0,0,0,0,0,1,0,0,0,0,0,0,0,0,0,0,0,0,0,0,0,0,0,0,0,0,0,0,0,0,0,0,0,0,0,0]
def shC : zSh := (15, 47, fun o => ocC_l.getD o 0, fun o k => (kdC_l.getD o []).getD k 0, fun q => akC_l.getD q 0)
set_option maxRecDepth 100000 in
theorem in_X0 : ∀ w ∈ u_ws RX0 TX0 2, w ∈ gt := by
  intro w hw
  refine gt_in ?_ ?_
  · have h : u_ws RX0 TX0 2 = [476,478].filterMap (fun i => lw_tbl[i]?) := by decide +kernel
    rw [h] at hw
    obtain ⟨i, -, hi⟩ := List.mem_filterMap.mp hw
    exact List.mem_of_getElem? hi
  · exact List.all_eq_true.mp (show (u_ws RX0 TX0 2).all goodWord = true by decide +kernel) w hw
set_option maxRecDepth 100000 in
theorem in_X1 : ∀ w ∈ u_ws RX1 TX1 6, w ∈ gt := by
  intro w hw
  refine gt_in ?_ ?_
  · have h : u_ws RX1 TX1 6 = [344,346,348,350,352,354].filterMap (fun i => lw_tbl[i]?) := by decide +kernel
    rw [h] at hw
    obtain ⟨i, -, hi⟩ := List.mem_filterMap.mp hw
    exact List.mem_of_getElem? hi
  · exact List.all_eq_true.mp (show (u_ws RX1 TX1 6).all goodWord = true by decide +kernel) w hw
set_option maxRecDepth 100000 in
theorem in_X2 : ∀ w ∈ u_ws RX2 TX2 10, w ∈ gt := by
  intro w hw
  refine gt_in ?_ ?_
  · have h : u_ws RX2 TX2 10 = [377,379,381,383,385,387,389,391,393,395].filterMap (fun i => lw_tbl[i]?) := by decide +kernel
    rw [h] at hw
    obtain ⟨i, -, hi⟩ := List.mem_filterMap.mp hw
    exact List.mem_of_getElem? hi
  · exact List.all_eq_true.mp (show (u_ws RX2 TX2 10).all goodWord = true by decide +kernel) w hw
set_option maxRecDepth 100000 in
theorem in_X3 : ∀ w ∈ u_ws RX3 TX3 8, w ∈ gt := by
  intro w hw
  refine gt_in ?_ ?_
  · have h : u_ws RX3 TX3 8 = [549,551,553,555,557,559,561,563].filterMap (fun i => lw_tbl[i]?) := by decide +kernel
    rw [h] at hw
    obtain ⟨i, -, hi⟩ := List.mem_filterMap.mp hw
    exact List.mem_of_getElem? hi
  · exact List.all_eq_true.mp (show (u_ws RX3 TX3 8).all goodWord = true by decide +kernel) w hw
set_option maxRecDepth 100000 in
theorem in_X4 : ∀ w ∈ u_ws RX4 TX4 6, w ∈ gt := by
  intro w hw
  refine gt_in ?_ ?_
  · have h : u_ws RX4 TX4 6 = [315,317,319,321,323,325].filterMap (fun i => lw_tbl[i]?) := by decide +kernel
    rw [h] at hw
    obtain ⟨i, -, hi⟩ := List.mem_filterMap.mp hw
    exact List.mem_of_getElem? hi
  · exact List.all_eq_true.mp (show (u_ws RX4 TX4 6).all goodWord = true by decide +kernel) w hw
set_option maxRecDepth 100000 in
theorem in_X5 : ∀ w ∈ u_ws RX5 TX5 5, w ∈ gt := by
  intro w hw
  refine gt_in ?_ ?_
  · have h : u_ws RX5 TX5 5 = [500,502,504,506,508].filterMap (fun i => lw_tbl[i]?) := by decide +kernel
    rw [h] at hw
    obtain ⟨i, -, hi⟩ := List.mem_filterMap.mp hw
    exact List.mem_of_getElem? hi
  · exact List.all_eq_true.mp (show (u_ws RX5 TX5 5).all goodWord = true by decide +kernel) w hw
set_option maxRecDepth 100000 in
theorem in_X6 : ∀ w ∈ u_ws RX6 TX6 10, w ∈ gt := by
  intro w hw
  refine gt_in ?_ ?_
  · have h : u_ws RX6 TX6 10 = [408,410,412,414,416,418,420,422,424,426].filterMap (fun i => lw_tbl[i]?) := by decide +kernel
    rw [h] at hw
    obtain ⟨i, -, hi⟩ := List.mem_filterMap.mp hw
    exact List.mem_of_getElem? hi
  · exact List.all_eq_true.mp (show (u_ws RX6 TX6 10).all goodWord = true by decide +kernel) w hw
set_option maxRecDepth 100000 in
theorem in_X7 : ∀ w ∈ u_ws RX7 TX7 8, w ∈ gt := by
  intro w hw
  refine gt_in ?_ ?_
  · have h : u_ws RX7 TX7 8 = [280,282,284,286,288,290,292,294].filterMap (fun i => lw_tbl[i]?) := by decide +kernel
    rw [h] at hw
    obtain ⟨i, -, hi⟩ := List.mem_filterMap.mp hw
    exact List.mem_of_getElem? hi
  · exact List.all_eq_true.mp (show (u_ws RX7 TX7 8).all goodWord = true by decide +kernel) w hw
set_option maxRecDepth 100000 in
theorem in_X8 : ∀ w ∈ u_ws RX8 TX8 5, w ∈ gt := by
  intro w hw
  refine gt_in ?_ ?_
  · have h : u_ws RX8 TX8 5 = [523,525,527,529,531].filterMap (fun i => lw_tbl[i]?) := by decide +kernel
    rw [h] at hw
    obtain ⟨i, -, hi⟩ := List.mem_filterMap.mp hw
    exact List.mem_of_getElem? hi
  · exact List.all_eq_true.mp (show (u_ws RX8 TX8 5).all goodWord = true by decide +kernel) w hw
set_option maxRecDepth 100000 in
theorem in_X9 : ∀ w ∈ u_ws RX9 TX9 7, w ∈ gt := by
  intro w hw
  refine gt_in ?_ ?_
  · have h : u_ws RX9 TX9 7 = [449,451,453,455,457,459,461].filterMap (fun i => lw_tbl[i]?) := by decide +kernel
    rw [h] at hw
    obtain ⟨i, -, hi⟩ := List.mem_filterMap.mp hw
    exact List.mem_of_getElem? hi
  · exact List.all_eq_true.mp (show (u_ws RX9 TX9 7).all goodWord = true by decide +kernel) w hw
set_option maxRecDepth 100000 in
theorem in_X10 : ∀ w ∈ u_ws RX10 TX10 16, w ∈ gt := by
  intro w hw
  refine gt_in ?_ ?_
  · have h : u_ws RX10 TX10 16 = [589,591,593,595,597,599,601,603,605,607,609,611,613,615,617,619].filterMap (fun i => lw_tbl[i]?) := by decide +kernel
    rw [h] at hw
    obtain ⟨i, -, hi⟩ := List.mem_filterMap.mp hw
    exact List.mem_of_getElem? hi
  · exact List.all_eq_true.mp (show (u_ws RX10 TX10 16).all goodWord = true by decide +kernel) w hw
set_option maxRecDepth 100000 in
theorem in_X11 : ∀ w ∈ u_ws RX11 TX11 7, w ∈ gt := by
  intro w hw
  refine gt_in ?_ ?_
  · have h : u_ws RX11 TX11 7 = [645,647,649,651,653,655,657].filterMap (fun i => lw_tbl[i]?) := by decide +kernel
    rw [h] at hw
    obtain ⟨i, -, hi⟩ := List.mem_filterMap.mp hw
    exact List.mem_of_getElem? hi
  · exact List.all_eq_true.mp (show (u_ws RX11 TX11 7).all goodWord = true by decide +kernel) w hw
theorem ho_C_X0 {q : Nat} (hq : q = 13 ∨ q = 14) : q < shC.1 ∧ q < shC.2.1 ∧ vwCl[shC.2.2.1 q]? = some (RX0, TX0, 2) := by rcases hq with rfl | rfl <;> exact ⟨by decide, by decide, rfl⟩
theorem ho_C_X1 : 3 < shC.1 ∧ 3 < shC.2.1 ∧ vwCl[shC.2.2.1 3]? = some (RX1, TX1, 6) := ⟨by decide, by decide, rfl⟩
theorem ho_C_X2 : 5 < shC.1 ∧ 5 < shC.2.1 ∧ vwCl[shC.2.2.1 5]? = some (RX2, TX2, 10) := ⟨by decide, by decide, rfl⟩
theorem ho_C_X3 : 7 < shC.1 ∧ 7 < shC.2.1 ∧ vwCl[shC.2.2.1 7]? = some (RX3, TX3, 8) := ⟨by decide, by decide, rfl⟩
theorem ho_C_X4 : 4 < shC.1 ∧ 4 < shC.2.1 ∧ vwCl[shC.2.2.1 4]? = some (RX4, TX4, 6) := ⟨by decide, by decide, rfl⟩
theorem ho_C_X5 {q : Nat} (hq : q = 9 ∨ q = 10) : q < shC.1 ∧ q < shC.2.1 ∧ vwCl[shC.2.2.1 q]? = some (RX5, TX5, 5) := by rcases hq with rfl | rfl <;> exact ⟨by decide, by decide, rfl⟩
theorem ho_C_X6 : 2 < shC.1 ∧ 2 < shC.2.1 ∧ vwCl[shC.2.2.1 2]? = some (RX6, TX6, 10) := ⟨by decide, by decide, rfl⟩
theorem ho_C_X7 : 1 < shC.1 ∧ 1 < shC.2.1 ∧ vwCl[shC.2.2.1 1]? = some (RX7, TX7, 8) := ⟨by decide, by decide, rfl⟩
theorem ho_C_X8 : 6 < shC.1 ∧ 6 < shC.2.1 ∧ vwCl[shC.2.2.1 6]? = some (RX8, TX8, 5) := ⟨by decide, by decide, rfl⟩
theorem ho_C_X9 {q : Nat} (hq : q = 11 ∨ q = 12) : q < shC.1 ∧ q < shC.2.1 ∧ vwCl[shC.2.2.1 q]? = some (RX9, TX9, 7) := by rcases hq with rfl | rfl <;> exact ⟨by decide, by decide, rfl⟩
theorem ho_C_X10 : 8 < shC.1 ∧ 8 < shC.2.1 ∧ vwCl[shC.2.2.1 8]? = some (RX10, TX10, 16) := ⟨by decide, by decide, rfl⟩
theorem ho_C_X11 : 0 < shC.1 ∧ 0 < shC.2.1 ∧ vwCl[shC.2.2.1 0]? = some (RX11, TX11, 7) := ⟨by decide, by decide, rfl⟩

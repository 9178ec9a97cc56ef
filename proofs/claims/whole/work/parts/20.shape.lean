/-! shape R: objects 0=TinyCModel -/
/- TinyCModel: 0=text, 1=textCells, 2=textSize, 3=treeCells, 4=code, 5=codeCells, 6=codeSize, 7=memory, 8=memCells, 9=input, 10=ioCells, 11=inputs, 12=inputAt, 13=output, 14=outputs, 15=source, 16=size, 17=at, 18=token, 19=kind, 20=told, 21=fault, 22=names, 23=nameOf, 24=sort, 25=address, 26=many, 27=body, 28=most, 29=globals, 30=seen, 31=seenName, 32=seenPlace, 33=blockFrom, 34=places, 35=function, 36=cells, 37=nest, 38=nodes, 39=what, 40=a, 41=b, 42=c, 43=v, 44=w, 45=after, 46=open, 47=openKind, 48=openNode, 49=openLast, 50=openLocals, 51=hadFrom, 52=hadSeen, 53=hadPlaces, 54=waiting, 55=waitKind, 56=waitNode, 57=waitLevel, 58=waitPlace, 59=waitLast, 60=made, 61=madeSize, 62=start, 63=tasks, 64=taskKind, 65=taskNode, 66=first, 67=other, 68=third, 69=kept, 70=keptSize, 71=hasCode, 72=pc, 73=sp, 74=fp, 75=state, 76=moved, 77=variable, 78=value, 79=values, 80=item, 81=itemNode, 82=items, 83=local, 84=locals, 85=frameAt, 86=frameOf, 87=frames -/
/- arrays: 1=text, 2=code, 3=memory, 4=input, 5=output, 6=source, 7=nameOf, 8=sort, 9=address, 10=many, 11=body, 12=most, 13=seenName, 14=seenPlace, 15=what, 16=a, 17=b, 18=c, 19=v, 20=w, 21=after, 22=openKind, 23=openNode, 24=openLast, 25=openLocals, 26=hadFrom, 27=hadSeen, 28=hadPlaces, 29=waitKind, 30=waitNode, 31=waitLevel, 32=waitPlace, 33=waitLast, 34=made, 35=start, 36=taskKind, 37=taskNode, 38=first, 39=other, 40=third, 41=kept, 42=variable, 43=value, 44=item, 45=itemNode, 46=local, 47=frameAt, 48=frameOf -/
def kdR_l : List (List Nat) := [[4,0,0,0,5,0,0,6,0,7,0,0,0,8,0,9,0,0,0,0,1,0,0,10,11,12,13,14,15,0,0,16,17,0,0,0,0,0,0,18,19,20,21,22,23,24,0,25,26,27,28,29,30,31,0,32,33,34,35,36,37,0,38,0,39,40,41,42,43,44,0,0,0,0,0,0,0,45,46,0,47,48,0,49,0,50,51,0]]
def ocR_l : List Nat := [12]
def akR_l : List Nat := [0,0,0,0,0,0,0,1,0,0,0,0,0,1,0,0,0,0,0,0,0,0,0,0,0,2,0,0,0,0,0,0,0,0,0,0,0,0,0,0,0,0,0,0,0,0,0,0,0]
def shR : zSh := (1, 49, fun o => ocR_l.getD o 0, fun o k => (kdR_l.getD o []).getD k 0, fun q => akR_l.getD q 0)
def lnR_l : List Nat := [0,4096,4096,4096,4096,4096,4096,1400,1400,1400,1400,1400,1400,1400,1400,4200,4200,4200,4200,4200,4200,4200,100,100,100,100,100,100,100,1300,1300,1300,1300,1300,30000,1400,6000,6000,4200,4200,4200,4096,4096,4120,4120,4120,5500,4120,4120]
def lnR : Nat → Nat := fun q => lnR_l.getD q 0
set_option maxRecDepth 100000 in
theorem in_X12 : ∀ w ∈ u_ws RX12 TX12 88, w ∈ gt := by
  intro w hw
  refine gt_in ?_ ?_
  · have h : u_ws RX12 TX12 88 = [1429,1431,1433,1435,1437,1439,1441,1443,1445,1447,1449,1451,1453,1455,1457,1459,1461,1463,1465,1467,1469,1471,1473,1475,1477,1479,1481,1483,1485,1487,1489,1491,1493,1495,1497,1499,1501,1503,1505,1507,1509,1511,1513,1515,1517,1519,1521,1523,1525,1527,1529,1531,1533,1535,1537,1539,1541,1543,1545,1547,1549,1551,1553,1555,1557,1559,1561,1563,1565,1567,1569,1571,1573,1575,1577,1579,1581,1583,1585,1587,1589,1591,1593,1595,1597,1599,1601,1603].filterMap (fun i => lw_tbl[i]?) := by decide +kernel
    rw [h] at hw
    obtain ⟨i, -, hi⟩ := List.mem_filterMap.mp hw
    exact List.mem_of_getElem? hi
  · exact List.all_eq_true.mp (show (u_ws RX12 TX12 88).all goodWord = true by decide +kernel) w hw
theorem ho_R_X12 : 0 < shR.1 ∧ 0 < shR.2.1 ∧ vwCl[shR.2.2.1 0]? = some (RX12, TX12, 88) := ⟨by decide, by decide, rfl⟩

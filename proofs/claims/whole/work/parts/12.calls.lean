/-! CALLS AND RETURNS over the world (calls that make nothing new) -/
theorem zPre_blind {D : va_G} {cy : Nat → ClassId} {S : zSh} {ad ts : Nat → Nat} {ln : Nat → Nat} {σ : zSt} {av : List Value} : FrameBlind (va_Pc av (zPre D cy S ad ts ln σ)) := by
  intro a U g mk q
  obtain ⟨q0, qP, qK, qI, qN, qZ⟩ := q
  exact ⟨q0, qP, va_K.moved (u := U) (U := U.calling g mk a) (Vm.Alike.refl U.vm) qK, qI, nt_same (s := U) (U := U.calling g mk a) rfl qN, zStat_go (s := U) (U := U.calling g mk a) qZ (Vm.Alike.refl U.vm) (fun _ _ _ => rfl)⟩
section ZC
variable {p : Program} {l : Launch} {e : Env} {R : Room} {s : State} {m : MethodId} {args : Array Value} {below : List Frame} {meth : Method} {c : Code} {H : Heap} {locs : List Loc} {Q : State → Prop}
variable {cc : ByteArray} {nL : Nat} {ret : Option FieldType} {own : String} {D : va_G} {cy : Nat → ClassId} {S : zSh} {ad ts : Nat → Nat} {ln : Nat → Nat} {σ u : zSt} {pc : Nat} {ls : Array Slot} {rest : List Value}
variable {y : MethodName} {bytes : ByteArray} {maxL d n index : Nat} {rt : Option FieldType} {As : List Value}
theorem zPre_of (X : zX p s m args meth c D cy S ad ts cc nL ret own) (J : zJ D cy S ad ln s σ H locs) {av : List Value} : ∀ U : State, U.heap = H → s.WarmedH U.vm → va_Pc av (zPre D cy S ad ts ln σ) av.toArray U := by
  intro U hU hW
  obtain ⟨hx, hb, hml, hown, hts, hK, hi, hr, hlk, hnt, hzs⟩ := X
  exact ⟨rfl, by rw [hU]; exact J.1, va_K.moved hW.alike hK, hi, nt_warm hW hnt, zStat_go hzs hW.alike (fun a h1 h2 => by rw [hU]; exact J.2.2.1 a h1 h2)⟩
/-- the words of a callee, out of gt -/
def zY (y : MethodName) (bytes : ByteArray) (maxL : Nat) (rt : Option FieldType) (n : Nat) : Prop := Cond.code y bytes maxL rt ∈ gt ∧ Cond.initialized y.cls ∈ gt ∧ (y.cls ≠ "java/lang/invoke/MethodHandle" ∧ y.cls ≠ "java/lang/invoke/VarHandle" ∧ (parseMethodDescriptor y.desc).map (fun d => d.parameters.length) = some n)
def zYi (y : MethodName) (bytes : ByteArray) (maxL : Nat) (rt : Option FieldType) (n : Nat) : Prop := zY y bytes maxL rt n ∧ Cond.instanceMethod y ∈ gt ∧ Cond.selects y.cls y y ∈ gt
def zYs (y : MethodName) (bytes : ByteArray) (maxL : Nat) (rt : Option FieldType) (n : Nat) : Prop := zY y bytes maxL rt n ∧ Cond.static y ∈ gt
theorem zcB (X : zX p s m args meth c D cy S ad ts cc nL ret own) (hY : zY y bytes maxL rt n) (hl : Cond.methodLink own index y ∈ gt) (hR : d + 1 ≤ R.frames ∧ 8 + (maxL + 11) + 60 * d ≤ R.locals) : CallB R s args own index y bytes maxL rt (.code y bytes maxL rt :: gt) (zRm d) 0 0 n := by
  obtain ⟨hx, hb, hml, hown, hts, hK, hi, hr, hlk, hnt, hzs⟩ := X
  exact callB_of n hts (gt_sub (fun w h => h) hY.1) rfl rfl rfl (hts _ hY.2.1) (hts _ hl) hY.2.2 hR
theorem zcN (X : zX p s m args meth c D cy S ad ts cc nL ret own) {host : String} (hY : zY y bytes maxL rt n) (hl : Cond.methodLinkNest own index y host ∈ nt) (hR : d + 1 ≤ R.frames ∧ 8 + (maxL + 11) + 60 * d ≤ R.locals) : va_CN R s args own index y host bytes maxL rt (.code y bytes maxL rt :: gt) (zRm d) 0 0 n := by
  obtain ⟨hx, hb, hml, hown, hts, hK, hi, hr, hlk, hnt, hzs⟩ := X
  exact va_cnB n hts (gt_sub (fun w h => h) hY.1) rfl rfl rfl (hnt _ hl) (hts _ hY.2.1) hY.2.2 hR
theorem zrecv (X : zX p s m args meth c D cy S ad ts cc nL ret own) (J : zJ D cy S ad ln s σ H locs) {C : String} {T : u_T} {N : Nat} (o : Nat) (ho : o < S.1) (hoT : o < S.2.1) (hc : vwCl[S.2.2.1 o]? = some (C, T, N)) : ∃ cell : Cell, H[ad o]? = some cell ∧ cell.vm.isStatics = false ∧ s.vm.findClass C = some cell.cls := by
  obtain ⟨hx, hb, hml, hown, hts, hK, hi, hr, hlk, hnt, hzs⟩ := X
  exact va_recv hK J.1 hc (q0 := o) (by rw [zW_at hoT, zE_obj ho hc])
theorem zr_calli (X : zX p s m args meth c D cy S ad ts cc nL ret own) (J : zJ D cy S ad ln s σ H locs) {T : u_T} {N : Nat} (o : Nat) (ho : o < S.1) (hoT : o < S.2.1) (hc : vwCl[S.2.2.1 o]? = some (y.cls, T, N)) (hY : zYi y bytes maxL rt n) (hl : Cond.methodLink own index y ∈ gt) (hR : d + 1 ≤ R.frames ∧ 8 + (maxL + 11) + 60 * d ≤ R.locals) {r : Int32} (hsize : ls.size = nL) (hn : As.length = n) (hW : (rest.map fun v => v.category).sum ≤ 8) (hM : zMi l y bytes maxL rt d D cy S ad ts ln (.ref (ad o) :: As) σ r u) (hdg : decode cc pc = .ok (.invokevirtual index, 3))
    (kk : ∀ (H1 : Heap) (locs1 : List Loc), zJ D cy S ad ln s u H1 locs1 → W p l e R s m args below meth c H1 locs1 0 0 Q (F0 m (pc + 3) ls (.int r :: rest))) : W p l e R s m args below meth c H locs 0 0 Q (F0 m pc ls (As.reverse ++ .ref (ad o) :: rest)) := by
  refine va_calli (va_runV (C := y.cls) (As := As) (rest := rest) ⟨X.1, X.2.1, X.2.2.1, X.2.2.2.1, X.2.2.2.2.1⟩ hM ⟨zcB X hY.1 hl hR, X.2.2.2.2.1 _ hY.2.1, X.2.2.2.2.1 _ hY.2.2⟩ ⟨zPre_blind, zrecv X J o ho hoT hc, zPre_of X J⟩ rfl hn hsize rfl (lv_room hW) hdg ⟨Nat.zero_le _, Nat.zero_le _⟩) J.2 (fun q _ h => h) (fun q h => h) (fun r0 u0 t H1 locs1 ht hvm hw hB hz1 hk1 hS => ?_)
  obtain ⟨rfl, rfl⟩ := hw
  exact kk H1 locs1 ⟨by rw [← ht]; exact hB.1, hS⟩
theorem zr_callNi (X : zX p s m args meth c D cy S ad ts cc nL ret own) (J : zJ D cy S ad ln s σ H locs) {T : u_T} {N : Nat} {host : String} (o : Nat) (ho : o < S.1) (hoT : o < S.2.1) (hc : vwCl[S.2.2.1 o]? = some (y.cls, T, N)) (hY : zYi y bytes maxL rt n) (hl : Cond.methodLinkNest own index y host ∈ nt) (hR : d + 1 ≤ R.frames ∧ 8 + (maxL + 11) + 60 * d ≤ R.locals) {r : Int32} (hsize : ls.size = nL) (hn : As.length = n) (hW : (rest.map fun v => v.category).sum ≤ 8) (hM : zMi l y bytes maxL rt d D cy S ad ts ln (.ref (ad o) :: As) σ r u) (hdg : decode cc pc = .ok (.invokevirtual index, 3))
    (kk : ∀ (H1 : Heap) (locs1 : List Loc), zJ D cy S ad ln s u H1 locs1 → W p l e R s m args below meth c H1 locs1 0 0 Q (F0 m (pc + 3) ls (.int r :: rest))) : W p l e R s m args below meth c H locs 0 0 Q (F0 m pc ls (As.reverse ++ .ref (ad o) :: rest)) := by
  refine va_calli (va_runVN (C := y.cls) (As := As) (rest := rest) ⟨X.1, X.2.1, X.2.2.1, X.2.2.2.1, X.2.2.2.2.1⟩ hM ⟨zcN X hY.1 hl hR, X.2.2.2.2.1 _ hY.2.1, X.2.2.2.2.1 _ hY.2.2⟩ ⟨zPre_blind, zrecv X J o ho hoT hc, zPre_of X J⟩ rfl hn hsize rfl (lv_room hW) hdg ⟨Nat.zero_le _, Nat.zero_le _⟩) J.2 (fun q _ h => h) (fun q h => h) (fun r0 u0 t H1 locs1 ht hvm hw hB hz1 hk1 hS => ?_)
  obtain ⟨rfl, rfl⟩ := hw
  exact kk H1 locs1 ⟨by rw [← ht]; exact hB.1, hS⟩
theorem zr_callSi (X : zX p s m args meth c D cy S ad ts cc nL ret own) (J : zJ D cy S ad ln s σ H locs) (hY : zYs y bytes maxL rt n) (hl : Cond.methodLink own index y ∈ gt) (hR : d + 1 ≤ R.frames ∧ 8 + (maxL + 11) + 60 * d ≤ R.locals) {r : Int32} (hsize : ls.size = nL) (hn : As.length = n) (hW : (rest.map fun v => v.category).sum ≤ 8) (hM : zMi l y bytes maxL rt d D cy S ad ts ln As σ r u) (hdg : decode cc pc = .ok (.invokestatic index, 3))
    (kk : ∀ (H1 : Heap) (locs1 : List Loc), zJ D cy S ad ln s u H1 locs1 → W p l e R s m args below meth c H1 locs1 0 0 Q (F0 m (pc + 3) ls (.int r :: rest))) : W p l e R s m args below meth c H locs 0 0 Q (F0 m pc ls (As.reverse ++ rest)) := by
  refine va_calli (va_runS (As := As) (rest := rest) ⟨X.1, X.2.1, X.2.2.1, X.2.2.2.1, X.2.2.2.2.1⟩ hM ⟨zcB X hY.1 hl hR, X.2.2.2.2.1 _ hY.2⟩ ⟨zPre_blind, zPre_of X J⟩ rfl hn hsize rfl (lv_room hW) hdg ⟨Nat.zero_le _, Nat.zero_le _⟩) J.2 (fun q _ h => h) (fun q h => h) (fun r0 u0 t H1 locs1 ht hvm hw hB hz1 hk1 hS => ?_)
  obtain ⟨rfl, rfl⟩ := hw
  exact kk H1 locs1 ⟨by rw [← ht]; exact hB.1, hS⟩
theorem zr_callTi (X : zX p s m args meth c D cy S ad ts cc nL ret own) (J : zJ D cy S ad ln s σ H locs) {host : String} (hY : zYs y bytes maxL rt n) (hl : Cond.methodLinkNest own index y host ∈ nt) (hR : d + 1 ≤ R.frames ∧ 8 + (maxL + 11) + 60 * d ≤ R.locals) {r : Int32} (hsize : ls.size = nL) (hn : As.length = n) (hW : (rest.map fun v => v.category).sum ≤ 8) (hM : zMi l y bytes maxL rt d D cy S ad ts ln As σ r u) (hdg : decode cc pc = .ok (.invokestatic index, 3))
    (kk : ∀ (H1 : Heap) (locs1 : List Loc), zJ D cy S ad ln s u H1 locs1 → W p l e R s m args below meth c H1 locs1 0 0 Q (F0 m (pc + 3) ls (.int r :: rest))) : W p l e R s m args below meth c H locs 0 0 Q (F0 m pc ls (As.reverse ++ rest)) := by
  refine va_calli (va_runSN (As := As) (rest := rest) ⟨X.1, X.2.1, X.2.2.1, X.2.2.2.1, X.2.2.2.2.1⟩ hM ⟨zcN X hY.1 hl hR, X.2.2.2.2.1 _ hY.2, trivial⟩ ⟨zPre_blind, zPre_of X J⟩ rfl hn hsize rfl (lv_room hW) hdg ⟨Nat.zero_le _, Nat.zero_le _⟩) J.2 (fun q _ h => h) (fun q h => h) (fun r0 u0 t H1 locs1 ht hvm hw hB hz1 hk1 hS => ?_)
  obtain ⟨rfl, rfl⟩ := hw
  exact kk H1 locs1 ⟨by rw [← ht]; exact hB.1, hS⟩
theorem zr_calll (X : zX p s m args meth c D cy S ad ts cc nL ret own) (J : zJ D cy S ad ln s σ H locs) {T : u_T} {N : Nat} (o : Nat) (ho : o < S.1) (hoT : o < S.2.1) (hc : vwCl[S.2.2.1 o]? = some (y.cls, T, N)) (hY : zYi y bytes maxL rt n) (hl : Cond.methodLink own index y ∈ gt) (hR : d + 1 ≤ R.frames ∧ 8 + (maxL + 11) + 60 * d ≤ R.locals) {r : Int64} (hsize : ls.size = nL) (hn : As.length = n) (hW : (rest.map fun v => v.category).sum ≤ 8) (hM : zMl l y bytes maxL rt d D cy S ad ts ln (.ref (ad o) :: As) σ r u) (hdg : decode cc pc = .ok (.invokevirtual index, 3))
    (kk : ∀ (H1 : Heap) (locs1 : List Loc), zJ D cy S ad ln s u H1 locs1 → W p l e R s m args below meth c H1 locs1 0 0 Q (F0 m (pc + 3) ls (.long r :: rest))) : W p l e R s m args below meth c H locs 0 0 Q (F0 m pc ls (As.reverse ++ .ref (ad o) :: rest)) := by
  refine va_calll (va_runV (C := y.cls) (As := As) (rest := rest) ⟨X.1, X.2.1, X.2.2.1, X.2.2.2.1, X.2.2.2.2.1⟩ hM ⟨zcB X hY.1 hl hR, X.2.2.2.2.1 _ hY.2.1, X.2.2.2.2.1 _ hY.2.2⟩ ⟨zPre_blind, zrecv X J o ho hoT hc, zPre_of X J⟩ rfl hn hsize rfl (lv_room hW) hdg ⟨Nat.zero_le _, Nat.zero_le _⟩) J.2 (fun q _ h => h) (fun q h => h) (fun r0 u0 t H1 locs1 ht hvm hw hB hz1 hk1 hS => ?_)
  obtain ⟨rfl, rfl⟩ := hw
  exact kk H1 locs1 ⟨by rw [← ht]; exact hB.1, hS⟩
theorem zr_callNl (X : zX p s m args meth c D cy S ad ts cc nL ret own) (J : zJ D cy S ad ln s σ H locs) {T : u_T} {N : Nat} {host : String} (o : Nat) (ho : o < S.1) (hoT : o < S.2.1) (hc : vwCl[S.2.2.1 o]? = some (y.cls, T, N)) (hY : zYi y bytes maxL rt n) (hl : Cond.methodLinkNest own index y host ∈ nt) (hR : d + 1 ≤ R.frames ∧ 8 + (maxL + 11) + 60 * d ≤ R.locals) {r : Int64} (hsize : ls.size = nL) (hn : As.length = n) (hW : (rest.map fun v => v.category).sum ≤ 8) (hM : zMl l y bytes maxL rt d D cy S ad ts ln (.ref (ad o) :: As) σ r u) (hdg : decode cc pc = .ok (.invokevirtual index, 3))
    (kk : ∀ (H1 : Heap) (locs1 : List Loc), zJ D cy S ad ln s u H1 locs1 → W p l e R s m args below meth c H1 locs1 0 0 Q (F0 m (pc + 3) ls (.long r :: rest))) : W p l e R s m args below meth c H locs 0 0 Q (F0 m pc ls (As.reverse ++ .ref (ad o) :: rest)) := by
  refine va_calll (va_runVN (C := y.cls) (As := As) (rest := rest) ⟨X.1, X.2.1, X.2.2.1, X.2.2.2.1, X.2.2.2.2.1⟩ hM ⟨zcN X hY.1 hl hR, X.2.2.2.2.1 _ hY.2.1, X.2.2.2.2.1 _ hY.2.2⟩ ⟨zPre_blind, zrecv X J o ho hoT hc, zPre_of X J⟩ rfl hn hsize rfl (lv_room hW) hdg ⟨Nat.zero_le _, Nat.zero_le _⟩) J.2 (fun q _ h => h) (fun q h => h) (fun r0 u0 t H1 locs1 ht hvm hw hB hz1 hk1 hS => ?_)
  obtain ⟨rfl, rfl⟩ := hw
  exact kk H1 locs1 ⟨by rw [← ht]; exact hB.1, hS⟩
theorem zr_callSl (X : zX p s m args meth c D cy S ad ts cc nL ret own) (J : zJ D cy S ad ln s σ H locs) (hY : zYs y bytes maxL rt n) (hl : Cond.methodLink own index y ∈ gt) (hR : d + 1 ≤ R.frames ∧ 8 + (maxL + 11) + 60 * d ≤ R.locals) {r : Int64} (hsize : ls.size = nL) (hn : As.length = n) (hW : (rest.map fun v => v.category).sum ≤ 8) (hM : zMl l y bytes maxL rt d D cy S ad ts ln As σ r u) (hdg : decode cc pc = .ok (.invokestatic index, 3))
    (kk : ∀ (H1 : Heap) (locs1 : List Loc), zJ D cy S ad ln s u H1 locs1 → W p l e R s m args below meth c H1 locs1 0 0 Q (F0 m (pc + 3) ls (.long r :: rest))) : W p l e R s m args below meth c H locs 0 0 Q (F0 m pc ls (As.reverse ++ rest)) := by
  refine va_calll (va_runS (As := As) (rest := rest) ⟨X.1, X.2.1, X.2.2.1, X.2.2.2.1, X.2.2.2.2.1⟩ hM ⟨zcB X hY.1 hl hR, X.2.2.2.2.1 _ hY.2⟩ ⟨zPre_blind, zPre_of X J⟩ rfl hn hsize rfl (lv_room hW) hdg ⟨Nat.zero_le _, Nat.zero_le _⟩) J.2 (fun q _ h => h) (fun q h => h) (fun r0 u0 t H1 locs1 ht hvm hw hB hz1 hk1 hS => ?_)
  obtain ⟨rfl, rfl⟩ := hw
  exact kk H1 locs1 ⟨by rw [← ht]; exact hB.1, hS⟩
theorem zr_callTl (X : zX p s m args meth c D cy S ad ts cc nL ret own) (J : zJ D cy S ad ln s σ H locs) {host : String} (hY : zYs y bytes maxL rt n) (hl : Cond.methodLinkNest own index y host ∈ nt) (hR : d + 1 ≤ R.frames ∧ 8 + (maxL + 11) + 60 * d ≤ R.locals) {r : Int64} (hsize : ls.size = nL) (hn : As.length = n) (hW : (rest.map fun v => v.category).sum ≤ 8) (hM : zMl l y bytes maxL rt d D cy S ad ts ln As σ r u) (hdg : decode cc pc = .ok (.invokestatic index, 3))
    (kk : ∀ (H1 : Heap) (locs1 : List Loc), zJ D cy S ad ln s u H1 locs1 → W p l e R s m args below meth c H1 locs1 0 0 Q (F0 m (pc + 3) ls (.long r :: rest))) : W p l e R s m args below meth c H locs 0 0 Q (F0 m pc ls (As.reverse ++ rest)) := by
  refine va_calll (va_runSN (As := As) (rest := rest) ⟨X.1, X.2.1, X.2.2.1, X.2.2.2.1, X.2.2.2.2.1⟩ hM ⟨zcN X hY.1 hl hR, X.2.2.2.2.1 _ hY.2, trivial⟩ ⟨zPre_blind, zPre_of X J⟩ rfl hn hsize rfl (lv_room hW) hdg ⟨Nat.zero_le _, Nat.zero_le _⟩) J.2 (fun q _ h => h) (fun q h => h) (fun r0 u0 t H1 locs1 ht hvm hw hB hz1 hk1 hS => ?_)
  obtain ⟨rfl, rfl⟩ := hw
  exact kk H1 locs1 ⟨by rw [← ht]; exact hB.1, hS⟩
theorem zr_callv (X : zX p s m args meth c D cy S ad ts cc nL ret own) (J : zJ D cy S ad ln s σ H locs) {T : u_T} {N : Nat} (o : Nat) (ho : o < S.1) (hoT : o < S.2.1) (hc : vwCl[S.2.2.1 o]? = some (y.cls, T, N)) (hY : zYi y bytes maxL rt n) (hl : Cond.methodLink own index y ∈ gt) (hR : d + 1 ≤ R.frames ∧ 8 + (maxL + 11) + 60 * d ≤ R.locals) (hsize : ls.size = nL) (hn : As.length = n) (hW : (rest.map fun v => v.category).sum ≤ 8) (hM : zMv l y bytes maxL rt d D cy S ad ts ln (.ref (ad o) :: As) σ u) (hdg : decode cc pc = .ok (.invokevirtual index, 3))
    (kk : ∀ (H1 : Heap) (locs1 : List Loc), zJ D cy S ad ln s u H1 locs1 → W p l e R s m args below meth c H1 locs1 0 0 Q (F0 m (pc + 3) ls (rest))) : W p l e R s m args below meth c H locs 0 0 Q (F0 m pc ls (As.reverse ++ .ref (ad o) :: rest)) := by
  refine va_callv (va_runV (C := y.cls) (As := As) (rest := rest) ⟨X.1, X.2.1, X.2.2.1, X.2.2.2.1, X.2.2.2.2.1⟩ hM ⟨zcB X hY.1 hl hR, X.2.2.2.2.1 _ hY.2.1, X.2.2.2.2.1 _ hY.2.2⟩ ⟨zPre_blind, zrecv X J o ho hoT hc, zPre_of X J⟩ rfl hn hsize rfl (lv_room hW) hdg ⟨Nat.zero_le _, Nat.zero_le _⟩) J.2 (fun q _ h => h) (fun q h => h) (fun u0 t H1 locs1 ht hvm hw hB hz1 hk1 hS => ?_)
  subst hw
  exact kk H1 locs1 ⟨by rw [← ht]; exact hB.1, hS⟩
theorem zr_callNv (X : zX p s m args meth c D cy S ad ts cc nL ret own) (J : zJ D cy S ad ln s σ H locs) {T : u_T} {N : Nat} {host : String} (o : Nat) (ho : o < S.1) (hoT : o < S.2.1) (hc : vwCl[S.2.2.1 o]? = some (y.cls, T, N)) (hY : zYi y bytes maxL rt n) (hl : Cond.methodLinkNest own index y host ∈ nt) (hR : d + 1 ≤ R.frames ∧ 8 + (maxL + 11) + 60 * d ≤ R.locals) (hsize : ls.size = nL) (hn : As.length = n) (hW : (rest.map fun v => v.category).sum ≤ 8) (hM : zMv l y bytes maxL rt d D cy S ad ts ln (.ref (ad o) :: As) σ u) (hdg : decode cc pc = .ok (.invokevirtual index, 3))
    (kk : ∀ (H1 : Heap) (locs1 : List Loc), zJ D cy S ad ln s u H1 locs1 → W p l e R s m args below meth c H1 locs1 0 0 Q (F0 m (pc + 3) ls (rest))) : W p l e R s m args below meth c H locs 0 0 Q (F0 m pc ls (As.reverse ++ .ref (ad o) :: rest)) := by
  refine va_callv (va_runVN (C := y.cls) (As := As) (rest := rest) ⟨X.1, X.2.1, X.2.2.1, X.2.2.2.1, X.2.2.2.2.1⟩ hM ⟨zcN X hY.1 hl hR, X.2.2.2.2.1 _ hY.2.1, X.2.2.2.2.1 _ hY.2.2⟩ ⟨zPre_blind, zrecv X J o ho hoT hc, zPre_of X J⟩ rfl hn hsize rfl (lv_room hW) hdg ⟨Nat.zero_le _, Nat.zero_le _⟩) J.2 (fun q _ h => h) (fun q h => h) (fun u0 t H1 locs1 ht hvm hw hB hz1 hk1 hS => ?_)
  subst hw
  exact kk H1 locs1 ⟨by rw [← ht]; exact hB.1, hS⟩
theorem zr_callSv (X : zX p s m args meth c D cy S ad ts cc nL ret own) (J : zJ D cy S ad ln s σ H locs) (hY : zYs y bytes maxL rt n) (hl : Cond.methodLink own index y ∈ gt) (hR : d + 1 ≤ R.frames ∧ 8 + (maxL + 11) + 60 * d ≤ R.locals) (hsize : ls.size = nL) (hn : As.length = n) (hW : (rest.map fun v => v.category).sum ≤ 8) (hM : zMv l y bytes maxL rt d D cy S ad ts ln As σ u) (hdg : decode cc pc = .ok (.invokestatic index, 3))
    (kk : ∀ (H1 : Heap) (locs1 : List Loc), zJ D cy S ad ln s u H1 locs1 → W p l e R s m args below meth c H1 locs1 0 0 Q (F0 m (pc + 3) ls (rest))) : W p l e R s m args below meth c H locs 0 0 Q (F0 m pc ls (As.reverse ++ rest)) := by
  refine va_callv (va_runS (As := As) (rest := rest) ⟨X.1, X.2.1, X.2.2.1, X.2.2.2.1, X.2.2.2.2.1⟩ hM ⟨zcB X hY.1 hl hR, X.2.2.2.2.1 _ hY.2⟩ ⟨zPre_blind, zPre_of X J⟩ rfl hn hsize rfl (lv_room hW) hdg ⟨Nat.zero_le _, Nat.zero_le _⟩) J.2 (fun q _ h => h) (fun q h => h) (fun u0 t H1 locs1 ht hvm hw hB hz1 hk1 hS => ?_)
  subst hw
  exact kk H1 locs1 ⟨by rw [← ht]; exact hB.1, hS⟩
theorem zr_callTv (X : zX p s m args meth c D cy S ad ts cc nL ret own) (J : zJ D cy S ad ln s σ H locs) {host : String} (hY : zYs y bytes maxL rt n) (hl : Cond.methodLinkNest own index y host ∈ nt) (hR : d + 1 ≤ R.frames ∧ 8 + (maxL + 11) + 60 * d ≤ R.locals) (hsize : ls.size = nL) (hn : As.length = n) (hW : (rest.map fun v => v.category).sum ≤ 8) (hM : zMv l y bytes maxL rt d D cy S ad ts ln As σ u) (hdg : decode cc pc = .ok (.invokestatic index, 3))
    (kk : ∀ (H1 : Heap) (locs1 : List Loc), zJ D cy S ad ln s u H1 locs1 → W p l e R s m args below meth c H1 locs1 0 0 Q (F0 m (pc + 3) ls (rest))) : W p l e R s m args below meth c H locs 0 0 Q (F0 m pc ls (As.reverse ++ rest)) := by
  refine va_callv (va_runSN (As := As) (rest := rest) ⟨X.1, X.2.1, X.2.2.1, X.2.2.2.1, X.2.2.2.2.1⟩ hM ⟨zcN X hY.1 hl hR, X.2.2.2.2.1 _ hY.2, trivial⟩ ⟨zPre_blind, zPre_of X J⟩ rfl hn hsize rfl (lv_room hW) hdg ⟨Nat.zero_le _, Nat.zero_le _⟩) J.2 (fun q _ h => h) (fun q h => h) (fun u0 t H1 locs1 ht hvm hw hB hz1 hk1 hS => ?_)
  subst hw
  exact kk H1 locs1 ⟨by rw [← ht]; exact hB.1, hS⟩
/-- the ends of a method's run -/
def zQi (D : va_G) (cy : Nat → ClassId) (S : zSh) (ad ts : Nat → Nat) (ln : Nat → Nat) (below : List Frame) (args : Array Value) (s : State) (o : Int32 × zSt) : State → Prop := MQ below (va_Qi (fun r' (u' : zSt) => r' = o.1 ∧ u' = o.2) (zPre D cy S ad ts ln) (zAd S ad)) args s 0 0 (zAd S ad)
def zQl (D : va_G) (cy : Nat → ClassId) (S : zSh) (ad ts : Nat → Nat) (ln : Nat → Nat) (below : List Frame) (args : Array Value) (s : State) (o : Int64 × zSt) : State → Prop := MQ below (va_Ql (fun r' (u' : zSt) => r' = o.1 ∧ u' = o.2) (zPre D cy S ad ts ln) (zAd S ad)) args s 0 0 (zAd S ad)
def zQv (D : va_G) (cy : Nat → ClassId) (S : zSh) (ad ts : Nat → Nat) (ln : Nat → Nat) (below : List Frame) (args : Array Value) (s : State) (o : Unit × zSt) : State → Prop := MQ below (va_Qv (fun (u' : zSt) => u' = o.2) (zPre D cy S ad ts ln) (zAd S ad)) args s 0 0 (zAd S ad)
theorem zr_iret (X : zX p s m args meth c D cy S ad ts cc nL (some .int) own) (J : zJ D cy S ad ln s σ H locs) {o : Int32 × zSt} {r : Int32} (hf : some (r, σ) = some o) (hdg : decode cc pc = .ok (.ireturn, 1)) : W p l e R s m args below meth c H locs 0 0 (zQi D cy S ad ts ln below args s o) (F0 m pc ls [.int r]) := by
  cases hf
  obtain ⟨hx, hb, hml, hown, hts, hK, hi, hr, hlk, hnt, hzs⟩ := X
  exact W.iret (v := r) hx hb hr (fun t ht hW => ⟨⟨r, σ, rfl, ⟨rfl, rfl⟩, by rw [ht]; exact J.1, va_K.moved hW.alike hK, hi, nt_warm hW hnt, zStat_go hzs hW.alike (fun a h1 h2 => by rw [ht]; exact J.2.2.1 a h1 h2)⟩, J.2.F ht⟩) J.2.2.2 hdg
theorem zr_zret (X : zX p s m args meth c D cy S ad ts cc nL (some .boolean) own) (J : zJ D cy S ad ln s σ H locs) {o : Int32 × zSt} {r : Int32} (hf : (if r = 0 ∨ r = 1 then some (r, σ) else none) = some o) (hdg : decode cc pc = .ok (.ireturn, 1)) : W p l e R s m args below meth c H locs 0 0 (zQi D cy S ad ts ln below args s o) (F0 m pc ls [.int r]) := by
  obtain ⟨h01, hf⟩ := ity hf
  cases hf
  obtain ⟨hx, hb, hml, hown, hts, hK, hi, hr, hlk, hnt, hzs⟩ := X
  exact W.zret (v := r) hx hb hr (z01 h01) (fun t ht hW => ⟨⟨r, σ, rfl, ⟨rfl, rfl⟩, by rw [ht]; exact J.1, va_K.moved hW.alike hK, hi, nt_warm hW hnt, zStat_go hzs hW.alike (fun a h1 h2 => by rw [ht]; exact J.2.2.1 a h1 h2)⟩, J.2.F ht⟩) J.2.2.2 hdg
theorem zr_lret (X : zX p s m args meth c D cy S ad ts cc nL (some .long) own) (J : zJ D cy S ad ln s σ H locs) {o : Int64 × zSt} {r : Int64} (hf : some (r, σ) = some o) (hdg : decode cc pc = .ok (.lreturn, 1)) : W p l e R s m args below meth c H locs 0 0 (zQl D cy S ad ts ln below args s o) (F0 m pc ls [.long r]) := by
  cases hf
  obtain ⟨hx, hb, hml, hown, hts, hK, hi, hr, hlk, hnt, hzs⟩ := X
  exact W.lret (v := r) hx hb hr (fun t ht hW => ⟨⟨r, σ, rfl, ⟨rfl, rfl⟩, by rw [ht]; exact J.1, va_K.moved hW.alike hK, hi, nt_warm hW hnt, zStat_go hzs hW.alike (fun a h1 h2 => by rw [ht]; exact J.2.2.1 a h1 h2)⟩, J.2.F ht⟩) J.2.2.2 hdg
theorem zr_vret (X : zX p s m args meth c D cy S ad ts cc nL none own) (J : zJ D cy S ad ln s σ H locs) {o : Unit × zSt} (hf : some ((), σ) = some o) (hdg : decode cc pc = .ok (.return_, 1)) : W p l e R s m args below meth c H locs 0 0 (zQv D cy S ad ts ln below args s o) (F0 m pc ls []) := by
  cases hf
  obtain ⟨hx, hb, hml, hown, hts, hK, hi, hr, hlk, hnt, hzs⟩ := X
  exact W.vret hx hb hr (fun t ht hW => ⟨⟨σ, rfl, rfl, by rw [ht]; exact J.1, va_K.moved hW.alike hK, hi, nt_warm hW hnt, zStat_go hzs hW.alike (fun a h1 h2 => by rw [ht]; exact J.2.2.1 a h1 h2)⟩, J.2.F ht⟩) J.2.2.2 hdg
/-- a method's beginning: from its body's walk to its contract -/
theorem zM_of {l : Launch} {av : List Value} {Qc : Array Value → State → Outcome → State → Prop} (hy : plainName y.cls = true) (hlen : (lg_sl av).length ≤ maxL)
    (body : ∀ p e s m args below meth c (ls : Array Slot), args = av.toArray → zX p s m args meth c D cy S ad ts bytes maxL rt y.cls → zJ D cy S ad ln s σ s.heap [] → lv_has ls maxL (lv_args 0 av) →
      W p l e (zRm d) s m args below meth c s.heap [] 0 0 (MQ below Qc args s 0 0 (zAd S ad)) (F0 m 0 ls [])) :
    Met l y (.code y bytes maxL rt :: gt) (zRm d) (va_Pc av (zPre D cy S ad ts ln σ)) Qc 0 0 (zAd S ad) := by
  refine Met.ofW (cc := bytes) (maxL := maxL) (ret := rt) hy rfl ?_
  intro p e s m args below meth c s₁ B hml hv
  obtain ⟨rfl, hP, hK, hi, hnt, hzs⟩ := hv
  have hts := atoms_spec (ws := .code y bytes maxL rt :: gt) B.pre
  have hown : s.vm.findClass y.cls = some m.cls := findClass_of_methodNamed B.named
  have hl := lv_entry av (n := maxL) hlen
  rw [lg_entry_eq]
  exact body p e s m _ below meth c _ rfl ⟨B.exec, B.bytes, hml, hown, fun w h => hts w (List.mem_cons_of_mem _ h), hK, hi, B.returns, B.notSynchronized, hnt, hzs⟩ ⟨hP, va_S.rf⟩ hl
end ZC

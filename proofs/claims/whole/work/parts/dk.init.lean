/-! NEW THINGS: calls of a system that stands; the class's constructor whole -/
theorem zStat_sub {A B : Nat → Prop} {ts : Nat → Nat} {U : State} (h : zStat A ts U) (hAB : ∀ q, B q → A q) : zStat B ts U := by
  obtain ⟨⟨z0, t0⟩, ⟨z1, t1⟩, -⟩ := h
  exact ⟨⟨z0.narrow hAB, t0.narrow hAB⟩, ⟨z1.narrow hAB, t1.narrow hAB⟩, trivial⟩
/-- two worlds beside each other -/
def LJ (D : va_G) (A : Nat → Prop) (H0 : Heap) (w1 w2 : va_W) (H : Heap) (locs : List Loc) : Prop := va_P D vwCl w1 H ∧ va_P D vwCl w2 H ∧ va_S A H0 H locs
section
variable {p : Program} {l : Launch} {e : Env} {R : Room} {s : State} {m : MethodId} {args : Array Value} {below : List Frame} {meth : Method} {c : Code} {H : Heap} {locs : List Loc} {Q : State → Prop} {cells slots : Nat}
variable {cc : ByteArray} {nL : Nat} {own : String} {D : va_G} {cy : Nat → ClassId} {A : Nat → Prop} {w2 : va_W} {pc : Nat} {ls : Array Slot} {rest : List Value}
variable {S : zSh} {ad ts : Nat → Nat} {ln : Nat → Nat} {σ u : zSt} {y : MethodName} {bytes : ByteArray} {maxL d n index : Nat} {rt : Option FieldType} {As : List Value}
theorem LJ.swap {w1 : va_W} {H0 : Heap} (h : LJ D A H0 w1 w2 H locs) : LJ D A H0 w2 w1 H locs := ⟨h.2.1, h.1, h.2.2⟩
theorem zPre_L (X : nX p s m args c D cy cc nL own) (hst : zStat A ts s) (J : LJ D A s.heap (zW S ad cy ln σ) w2 H locs) (hI : zIn S ad) (hA : ∀ q, zAd S ad q → A q) {av : List Value} : ∀ U : State, U.heap = H → s.WarmedH U.vm → va_Pc av (zPre D cy S ad ts ln σ) av.toArray U := by
  intro U hU hW
  obtain ⟨hx, hb, hml, hown, hts, hK, hnt⟩ := X
  exact ⟨rfl, by rw [hU]; exact J.1, va_K.moved hW.alike hK, hI, nt_warm hW hnt, zStat_sub (zStat_go hst hW.alike (fun a h1 h2 => by rw [hU]; exact J.2.2.2.1 a h1 h2)) hA⟩
theorem nr_zi (X : nX p s m args c D cy cc nL own) (hst : zStat A ts s) (J : LJ D A s.heap (zW S ad cy ln σ) w2 H locs) (hI : zIn S ad) (hA : ∀ q, zAd S ad q → A q) (hap : ∀ (k : Nat) (q : Nat × va_E), w2[k]? = some q → ¬ zAd S ad q.1) {T : u_T} {N : Nat} (o : Nat) (ho : o < S.1) (hoT : o < S.2.1) (hc : vwCl[S.2.2.1 o]? = some (y.cls, T, N)) (hY : zYi y bytes maxL rt n) (hl : Cond.methodLink own index y ∈ gt) (hR : d + 1 ≤ R.frames ∧ 8 + (maxL + 11) + 60 * d ≤ R.locals) {r : Int32} (hsize : ls.size = nL) (hn : As.length = n) (hW : (rest.map fun v => v.category).sum ≤ 8) (hM : zMi l y bytes maxL rt d D cy S ad ts ln (.ref (ad o) :: As) σ r u) (hdg : decode cc pc = .ok (.invokevirtual index, 3)) (hf : cells ≤ R.cells ∧ slots ≤ R.slots)
    (kk : ∀ (H1 : Heap) (locs1 : List Loc), LJ D A s.heap (zW S ad cy ln u) w2 H1 locs1 → W p l e R s m args below meth c H1 locs1 cells slots Q (F0 m (pc + 3) ls (.int r :: rest))) : W p l e R s m args below meth c H locs cells slots Q (F0 m pc ls (As.reverse ++ .ref (ad o) :: rest)) := by
  have hp := fun av => zPre_L (av := av) X hst J hI hA
  obtain ⟨hx, hb, hml, hown, hts, hK, hnt⟩ := X
  refine va_calli (va_runV (C := y.cls) (As := As) (rest := rest) ⟨hx, hb, hml, hown, hts⟩ hM ⟨callB_of n hts (gt_sub (fun w h => h) hY.1.1) rfl rfl rfl (hts _ hY.1.2.1) (hts _ hl) hY.1.2.2 hR, hts _ hY.2.1, hts _ hY.2.2⟩ ⟨zPre_blind, va_recv hK J.1 hc (q0 := o) (by rw [zW_at hoT, zE_obj ho hc]), hp _⟩ rfl hn hsize rfl (lv_room hW) hdg hf) J.2.2 (fun q _ h => hA q h) (fun q h => hA q h) (fun r0 u0 t H1 locs1 ht hvm hw hB hz1 hk1 hS => ?_)
  obtain ⟨rfl, rfl⟩ := hw
  exact kk H1 locs1 ⟨by rw [← ht]; exact hB.1, J.2.1.kept (fun k x hx => hk1 _ ((J.2.1 k x hx).lt) (hap k x hx)), hS⟩
theorem nr_zv (X : nX p s m args c D cy cc nL own) (hst : zStat A ts s) (J : LJ D A s.heap (zW S ad cy ln σ) w2 H locs) (hI : zIn S ad) (hA : ∀ q, zAd S ad q → A q) (hap : ∀ (k : Nat) (q : Nat × va_E), w2[k]? = some q → ¬ zAd S ad q.1) {T : u_T} {N : Nat} (o : Nat) (ho : o < S.1) (hoT : o < S.2.1) (hc : vwCl[S.2.2.1 o]? = some (y.cls, T, N)) (hY : zYi y bytes maxL rt n) (hl : Cond.methodLink own index y ∈ gt) (hR : d + 1 ≤ R.frames ∧ 8 + (maxL + 11) + 60 * d ≤ R.locals) (hsize : ls.size = nL) (hn : As.length = n) (hW : (rest.map fun v => v.category).sum ≤ 8) (hM : zMv l y bytes maxL rt d D cy S ad ts ln (.ref (ad o) :: As) σ u) (hdg : decode cc pc = .ok (.invokevirtual index, 3)) (hf : cells ≤ R.cells ∧ slots ≤ R.slots)
    (kk : ∀ (H1 : Heap) (locs1 : List Loc), LJ D A s.heap (zW S ad cy ln u) w2 H1 locs1 → W p l e R s m args below meth c H1 locs1 cells slots Q (F0 m (pc + 3) ls rest)) : W p l e R s m args below meth c H locs cells slots Q (F0 m pc ls (As.reverse ++ .ref (ad o) :: rest)) := by
  have hp := fun av => zPre_L (av := av) X hst J hI hA
  obtain ⟨hx, hb, hml, hown, hts, hK, hnt⟩ := X
  refine va_callv (va_runV (C := y.cls) (As := As) (rest := rest) ⟨hx, hb, hml, hown, hts⟩ hM ⟨callB_of n hts (gt_sub (fun w h => h) hY.1.1) rfl rfl rfl (hts _ hY.1.2.1) (hts _ hl) hY.1.2.2 hR, hts _ hY.2.1, hts _ hY.2.2⟩ ⟨zPre_blind, va_recv hK J.1 hc (q0 := o) (by rw [zW_at hoT, zE_obj ho hc]), hp _⟩ rfl hn hsize rfl (lv_room hW) hdg hf) J.2.2 (fun q _ h => hA q h) (fun q h => hA q h) (fun u0 t H1 locs1 ht hvm hw hB hz1 hk1 hS => ?_)
  subst hw
  exact kk H1 locs1 ⟨by rw [← ht]; exact hB.1, J.2.1.kept (fun k x hx => hk1 _ ((J.2.1 k x hx).lt) (hap k x hx)), hS⟩
theorem nr_zvN {host : String} (X : nX p s m args c D cy cc nL own) (hst : zStat A ts s) (J : LJ D A s.heap (zW S ad cy ln σ) w2 H locs) (hI : zIn S ad) (hA : ∀ q, zAd S ad q → A q) (hap : ∀ (k : Nat) (q : Nat × va_E), w2[k]? = some q → ¬ zAd S ad q.1) {T : u_T} {N : Nat} (o : Nat) (ho : o < S.1) (hoT : o < S.2.1) (hc : vwCl[S.2.2.1 o]? = some (y.cls, T, N)) (hY : zYi y bytes maxL rt n) (hl : Cond.methodLinkNest own index y host ∈ nt) (hR : d + 1 ≤ R.frames ∧ 8 + (maxL + 11) + 60 * d ≤ R.locals) (hsize : ls.size = nL) (hn : As.length = n) (hW : (rest.map fun v => v.category).sum ≤ 8) (hM : zMv l y bytes maxL rt d D cy S ad ts ln (.ref (ad o) :: As) σ u) (hdg : decode cc pc = .ok (.invokevirtual index, 3)) (hf : cells ≤ R.cells ∧ slots ≤ R.slots)
    (kk : ∀ (H1 : Heap) (locs1 : List Loc), LJ D A s.heap (zW S ad cy ln u) w2 H1 locs1 → W p l e R s m args below meth c H1 locs1 cells slots Q (F0 m (pc + 3) ls rest)) : W p l e R s m args below meth c H locs cells slots Q (F0 m pc ls (As.reverse ++ .ref (ad o) :: rest)) := by
  have hp := fun av => zPre_L (av := av) X hst J hI hA
  obtain ⟨hx, hb, hml, hown, hts, hK, hnt⟩ := X
  refine va_callv (va_runVN (C := y.cls) (As := As) (rest := rest) ⟨hx, hb, hml, hown, hts⟩ hM ⟨va_cnB n hts (gt_sub (fun w h => h) hY.1.1) rfl rfl rfl (hnt _ hl) (hts _ hY.1.2.1) hY.1.2.2 hR, hts _ hY.2.1, hts _ hY.2.2⟩ ⟨zPre_blind, va_recv hK J.1 hc (q0 := o) (by rw [zW_at hoT, zE_obj ho hc]), hp _⟩ rfl hn hsize rfl (lv_room hW) hdg hf) J.2.2 (fun q _ h => hA q h) (fun q h => hA q h) (fun u0 t H1 locs1 ht hvm hw hB hz1 hk1 hS => ?_)
  subst hw
  exact kk H1 locs1 ⟨by rw [← ht]; exact hB.1, J.2.1.kept (fun k x hx => hk1 _ ((J.2.1 k x hx).lt) (hap k x hx)), hS⟩
theorem zIn_D (h : va_D A (zW S ad cy ln σ)) : zIn S ad ∧ ∀ q, zAd S ad q → A q := by
  refine ⟨fun i j hi hj e => h.1 i j _ _ (zW_at hi) (zW_at hj) e, ?_⟩
  rintro q ⟨i, hi, rfl⟩
  exact h.2 i _ (zW_at hi)
theorem nJ_L {H0 : Heap} (J : LJ D A H0 (zW S ad cy ln σ) w2 H locs) (hI : zIn S ad) (hA : ∀ q, zAd S ad q → A q) (hA0 : ∀ q, H0.size ≤ q → A q) : nJ D A H0 (zW S ad cy ln σ) H locs := ⟨J.1, (zW_D hI).weaken (fun _ _ _ h => hA _ h), J.2.2, hA0⟩
end
theorem agS1_I {q mc o k : Nat} {σ : zSt} (h : ¬ (o = 7 ∧ 3 ≤ k)) : zI (agS1 q mc σ) o k = zI σ o k := by
  unfold agS1
  rw [zI_I, if_neg (by omega), zI_I, if_neg (by omega), zI_I, if_neg (by omega), zI_I, if_neg (by omega), zI_I, if_neg (by omega), zeS_I, zI_R]
theorem agS1_R {q mc o k : Nat} {σ : zSt} (h : ¬ (o = 7 ∧ k = 2)) : zR (agS1 q mc σ) o k = zR σ o k := by
  unfold agS1
  simp only [zR_I, zeS_R]
  rw [zR_R, if_neg h]
theorem agS2_I {q mc o k : Nat} {σ : zSt} (h : ¬ (o = 8 ∧ 9 ≤ k)) : zI (agS2 q mc σ) o k = zI σ o k := by
  unfold agS2
  rw [zI_I, if_neg (by omega), zI_I, if_neg (by omega), zI_I, if_neg (by omega), zI_I, if_neg (by omega), zI_I, if_neg (by omega), zI_I, if_neg (by omega), zeS_I, zI_I, if_neg (by omega), zI_R]
theorem agS2_11 {q mc : Nat} {σ : zSt} : zI (agS2 q mc σ) 8 11 = nI 0 := by
  unfold agS2
  simp only [zI_I, zI_L, zI_R, zI_A, zI_B, zL_I, zL_L, zL_R, zL_A, zL_B, zA_I, zA_L, zA_R, zA_A, zA_B, zB_I, zB_L, zB_R, zB_A, zB_B, reduceIte, Nat.reduceEqDiff, Nat.reduceEqDiff, false_and, and_false, true_and, and_true, ne_eq, not_false_eq_true, not_true_eq_false, zeS_I]
  rfl
theorem agS2_R {q mc o k : Nat} {σ : zSt} (h : ¬ (o = 8 ∧ k = 8)) : zR (agS2 q mc σ) o k = zR σ o k := by
  unfold agS2
  simp only [zR_I, zeS_R]
  rw [zR_R, if_neg h]
def s1C (tc mc : Nat) : zSt := agS1 9 mc (s0C tc mc)
def s2C (tc mc : Nat) : zSt := zsI (zsA (zsA (agS2 9 mc (s1C tc mc)) 28 0 3) 29 0 (zI (agS2 9 mc (s1C tc mc)) 9 3)) 8 11 (nI (0 + 1))
theorem s2C_I {tc mc o k : Nat} (h7 : ¬ (o = 7 ∧ 3 ≤ k)) (h8 : ¬ (o = 8 ∧ 9 ≤ k)) : zI (s2C tc mc) o k = zI (s0C tc mc) o k := by
  unfold s2C s1C
  rw [zI_I, if_neg (by omega), zI_A, zI_A, agS2_I h8, agS1_I h7]
theorem s2C_R {tc mc o k : Nat} (h7 : ¬ (o = 7 ∧ k = 2)) (h8 : ¬ (o = 8 ∧ k = 8)) : zR (s2C tc mc) o k = zR (s0C tc mc) o k := by
  unfold s2C s1C
  rw [zR_I, zR_A, zR_A, agS2_R h8, agS1_R h7]
theorem lnC_LM {tx cc mc io : Nat} (hm : mc ≤ 4096) (hi : io ≤ 4096) : LM (lnC tx cc mc io) mc io := ⟨rfl, rfl, rfl, rfl, rfl, rfl, rfl, rfl, rfl, hm, hi⟩
theorem bg1 {tx cc mc io tc N M : Nat} (hN : 5000 ≤ N) (hm : mc ≤ 4096) (hi : io ≤ 4096) : fX3_begin (lnC tx cc mc io) N M 9 (s0C tc mc) = some ((), s1C tc mc) := mbgC (lnC_LM hm hi) hN (Or.inl rfl)
theorem bg2 {tx cc mc io tc N M : Nat} (hN : 5000 ≤ N) (hm : mc ≤ 4096) (hi : io ≤ 4096) : fX10_begin (lnC tx cc mc io) N M 9 (s1C tc mc) = some ((), s2C tc mc) := by
  rw [wbgC (lnC_LM hm hi) hN, pushItC (lnC_LM hm hi) agS2_11 (by omega), obd_s]
  rfl
abbrev wC0 (h0 : Nat) : va_W := [(h0, .inr (11, [.null, .null, .null, .null, .null, .null, .null]))]
set_option maxHeartbeats 4000000 in
theorem vX11_init (l : Launch) (D : va_G) (cy : Nat → ClassId) (ts : Nat → Nat) (h0 sz : Nat) (b1 b2 b3 b4 b5 : Int32) : Met l yX11_init (.code yX11_init cX11_init 8 none :: gt) (nRm 4 46 120481) (va_Pc [.ref h0, .int b1, .int b2, .int b3, .int b4, .int b5] (fun U => nPre D cy (wC0 h0) sz U ∧ zStat (va_A (wC0 h0) sz) ts U)) (va_Qv (fun (_ : Nat → Nat) => True) (fun ad t => va_P D vwCl (zW shC (fun i => if i = 0 then h0 else ad i) cy (lnC (clN b1) (clN b3) (clN b4) (clN b5)) (s2C (clN b2) (clN b4))) t.heap ∧ va_D (va_A (wC0 h0) sz) (zW shC (fun i => if i = 0 then h0 else ad i) cy (lnC (clN b1) (clN b3) (clN b4) (clN b5)) (s2C (clN b2) (clN b4)))) (va_A (wC0 h0) sz)) 46 120481 (va_A (wC0 h0) sz) := by
  refine Met.ofW (cc := cX11_init) (maxL := 8) (ret := none) (by decide) rfl ?_
  intro p e s m args below meth c s₁ B hml hv
  obtain ⟨rfl, ⟨hsz, hP, hK, hD, hnt⟩, hst⟩ := hv
  have hts := atoms_spec (ws := .code yX11_init cX11_init 8 none :: gt) B.pre
  have hown : s.vm.findClass RX11 = some m.cls := findClass_of_methodNamed B.named
  have hC : nC meth := ⟨(name_of_methodNamed B.named B.method).1, B.returns, B.notSynchronized⟩
  subst hsz
  have hl := lv_entry [.ref h0, .int b1, .int b2, .int b3, .int b4, .int b5] (n := 8) (Nat.le_of_ble_eq_true rfl)
  rw [lg_entry_eq]
  generalize (lg_sl [.ref h0, .int b1, .int b2, .int b3, .int b4, .int b5] ++ List.replicate (8 - (lg_sl [.ref h0, .int b1, .int b2, .int b3, .int b4, .int b5]).length) Slot.unset).toArray = ls at hl ⊢
  have hl : lv_has ls 8 [(0, .ref h0), (1, .int b1), (2, .int b2), (3, .int b3), (4, .int b4), (5, .int b5)] := hl
  have J : nJ D (va_A (wC0 h0) s.heap.size) s.heap (wC0 h0) s.heap [] := ⟨hP, hD.self, va_S.rf, fun q h => Or.inr h⟩
  generalize va_A (wC0 h0) s.heap.size = A at J hst ⊢
  generalize ([.ref h0, .int b1, .int b2, .int b3, .int b4, .int b5] : List Value).toArray = args at hts ⊢
  have X : nX p s m args c D cy cX11_init 8 RX11 := ⟨B.exec, B.bytes, hml, hown, fun w h => hts w (List.mem_cons_of_mem _ h), hK, hnt⟩
  have hx := X.1
  have hb := X.2.1
  refine vX11_part X hC J hl (fun ad H locs ls h0e J2 hl2 => ?_)
  clear J hl
  subst h0e
  have J := J2
  have hl := hl2
  obtain ⟨hI, hA⟩ := zIn_D J.2.1
  have hA0 := J.2.2.2
  have cm := clN_le b4
  have ci := clN_le b5
  have hap : ∀ (k : Nat) (q : Nat × va_E), ([] : va_W)[k]? = some q → ¬ zAd shC ad q.1 := fun k q h => by simp at h
  refine lv_aload_n hx hb dX11_init_149 rfl (lv_at hl 2 rfl) ?_
  refine nr_get X J (C := RX11) (T := TX11) (N := 7) (index := 63) (ci := 11) 0 3 (by rw [zW_at (by decide), zE_obj (C := RX11) (T := TX11) (N := 7) (by decide) rfl]; rfl) rfl in_X11 (by decide) mw_fieldLink_TinyC_63_TinyC_machine_LTinyCMachine rfl (v := .ref (ad 7)) (by rw [zF_at (by decide)]; rfl) dX11_init_150 ?_
  refine lv_aload_n hx hb dX11_init_153 rfl (lv_at hl 2 rfl) ?_
  refine nr_get X J (C := RX11) (T := TX11) (N := 7) (index := 44) (ci := 11) 0 5 (by rw [zW_at (by decide), zE_obj (C := RX11) (T := TX11) (N := 7) (by decide) rfl]; rfl) rfl in_X11 (by decide) mw_fieldLink_TinyC_44_TinyC_program_LTinyCProgram rfl (v := .ref (ad 9)) (by rw [zF_at (by decide)]; rfl) dX11_init_154 ?_
  have J : LJ D A s.heap (zW shC ad cy (lnC (clN b1) (clN b3) (clN b4) (clN b5)) (s0C (clN b2) (clN b4))) [] H locs := ⟨J.1, fun k q h => by simp at h, J.2.2.1⟩
  refine nr_zvN X hst J hI hA hap (y := yX3_begin) (T := TX3) (N := 8) 7 (by decide) (by decide) rfl yy_X3_begin mw_methodLinkNest_TinyC_74_TinyCMachine_begin_LTinyCProgramV_TinyC ⟨Nat.le_of_ble_eq_true rfl, Nat.le_of_ble_eq_true rfl⟩ hl.1 (As := [.ref (ad 9)]) rfl (Nat.le_of_ble_eq_true rfl) (tX3_begin (N := 5000) (M := 43) (Or.inl rfl) (bg1 (Nat.le_refl _) cm ci)) dX11_init_157 ⟨Nat.le_of_ble_eq_true rfl, Nat.le_of_ble_eq_true rfl⟩ (fun H locs J => ?_)
  have J' := nJ_L J hI hA hA0
  refine lv_aload_n hx hb dX11_init_160 rfl (lv_at hl 2 rfl) ?_
  refine nr_get X J' (C := RX11) (T := TX11) (N := 7) (index := 70) (ci := 11) 0 4 (by rw [zW_at (by decide), zE_obj (C := RX11) (T := TX11) (N := 7) (by decide) rfl]; rfl) rfl in_X11 (by decide) mw_fieldLink_TinyC_70_TinyC_walker_LTinyCWalker rfl (v := .ref (ad 8)) (by rw [zF_at (by decide)]; rfl) dX11_init_161 ?_
  refine lv_aload_n hx hb dX11_init_164 rfl (lv_at hl 2 rfl) ?_
  have hr5 : zV shC ad (s1C (clN b2) (clN b4)) 0 5 = .ref (ad 9) := by
    have h : zR (s1C (clN b2) (clN b4)) 0 5 = 10 := agS1_R (by omega)
    show (match zR (s1C (clN b2) (clN b4)) 0 5 with
      | 0 => Value.null
      | n + 1 => .ref (ad n)) = _
    rw [h]
  refine nr_get X J' (C := RX11) (T := TX11) (N := 7) (index := 44) (ci := 11) 0 5 (by rw [zW_at (by decide), zE_obj (C := RX11) (T := TX11) (N := 7) (by decide) rfl]; rfl) rfl in_X11 (by decide) mw_fieldLink_TinyC_44_TinyC_program_LTinyCProgram rfl (v := .ref (ad 9)) (by rw [zF_at (by decide), hr5]) dX11_init_165 ?_
  refine nr_zvN X hst J hI hA hap (y := yX10_begin) (T := TX10) (N := 16) 8 (by decide) (by decide) rfl yy_X10_begin mw_methodLinkNest_TinyC_78_TinyCWalker_begin_LTinyCProgramV_TinyC ⟨Nat.le_of_ble_eq_true rfl, Nat.le_of_ble_eq_true rfl⟩ hl.1 (As := [.ref (ad 9)]) rfl (Nat.le_of_ble_eq_true rfl) (tX10_begin (N := 5000) (M := 43) (Or.inl rfl) (bg2 (Nat.le_refl _) cm ci)) dX11_init_168 ⟨Nat.le_of_ble_eq_true rfl, Nat.le_of_ble_eq_true rfl⟩ (fun H locs J => ?_)
  have J' := nJ_L J hI hA hA0
  have hlk := hC.2.2
  have ea : (fun i => if i = 0 then ad 0 else ad i) = ad := by
    funext i
    by_cases h : i = 0
    · rw [if_pos h, h]
    · rw [if_neg h]
  exact W.vret hx hb hC.2.1 (fun t ht hW => ⟨⟨ad, rfl, trivial, by rw [ea, ht]; exact J'.1, by rw [ea]; exact J'.2.1⟩, J'.2.2.1.F ht⟩) J'.2.2.1.2.2 dX11_init_171

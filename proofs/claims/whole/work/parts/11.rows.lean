/-! ROWS over the world -/
theorem zV_sI {S : zSh} {ad : Nat → Nat} {σ : zSt} {o k i j : Nat} {x : Int32} (h : i ≠ o ∨ j ≠ k) : zV S ad (zsI σ o k x) i j = zV S ad σ i j := by
  have h1 : zI (zsI σ o k x) i j = zI σ i j := by
    unfold zI zsI zup
    simp only
    rw [if_neg (by rintro ⟨a, b⟩; rcases h with h | h <;> contradiction)]
  unfold zV
  rw [h1]
  rfl
theorem zV_sL {S : zSh} {ad : Nat → Nat} {σ : zSt} {o k i j : Nat} {x : Int64} (h : i ≠ o ∨ j ≠ k) : zV S ad (zsL σ o k x) i j = zV S ad σ i j := by
  have h1 : zL (zsL σ o k x) i j = zL σ i j := by
    unfold zL zsL zup
    simp only
    rw [if_neg (by rintro ⟨a, b⟩; rcases h with h | h <;> contradiction)]
  unfold zV
  rw [h1]
  rfl
theorem zV_sR {S : zSh} {ad : Nat → Nat} {σ : zSt} {o k i j : Nat} {x : Nat} (h : i ≠ o ∨ j ≠ k) : zV S ad (zsR σ o k x) i j = zV S ad σ i j := by
  have h1 : zR (zsR σ o k x) i j = zR σ i j := by
    unfold zR zsR zup
    simp only
    rw [if_neg (by rintro ⟨a, b⟩; rcases h with h | h <;> contradiction)]
  unfold zV
  rw [h1]
  rfl
theorem zI_s (σ : zSt) (o k : Nat) (x : Int32) : zI (zsI σ o k x) o k = x := by simp [zI, zsI, zup]
theorem zL_s (σ : zSt) (o k : Nat) (x : Int64) : zL (zsL σ o k x) o k = x := by simp [zL, zsL, zup]
theorem zR_s (σ : zSt) (o k : Nat) (x : Nat) : zR (zsR σ o k x) o k = x := by simp [zR, zsR, zup]
theorem zE_of {S : zSh} {ad : Nat → Nat} {cy : Nat → ClassId} {ln : Nat → Nat} {σ τ : zSt} {i : Nat} (hV : ∀ j, zV S ad τ i j = zV S ad σ i j) (hA : ∀ j, zA τ i j = zA σ i j) (hB : ∀ j, zB τ i j = zB σ i j) : zE S ad cy ln τ i = zE S ad cy ln σ i := by
  have h1 : zV S ad τ i = zV S ad σ i := funext hV
  have h2 : zA τ i = zA σ i := funext hA
  have h3 : zB τ i = zB σ i := funext hB
  unfold zE
  rw [h1, h2, h3]
theorem zA_o {σ : zSt} {q i j k : Nat} {x : Int32} (h : i ≠ q) : zA (zsA σ q k x) i j = zA σ i j := by
  unfold zA zsA zup
  simp only
  rw [if_neg (fun a => h a.1)]
theorem zB_o {σ : zSt} {q i j k : Nat} {x : Int64} (h : i ≠ q) : zB (zsB σ q k x) i j = zB σ i j := by
  unfold zB zsB zup
  simp only
  rw [if_neg (fun a => h a.1)]
theorem zA_u {σ : zSt} {q k : Nat} {x : Int32} : zA (zsA σ q k x) q = upd (zA σ q) k x := by
  funext j
  simp [zA, zsA, zup, upd]
theorem zB_u {σ : zSt} {q k : Nat} {x : Int64} : zB (zsB σ q k x) q = vp_updL (zB σ q) k x := by
  funext j
  simp [zB, zsB, zup, vp_updL]
section ZR
variable {p : Program} {l : Launch} {e : Env} {R : Room} {s : State} {m : MethodId} {args : Array Value} {below : List Frame} {meth : Method} {c : Code} {H : Heap} {locs : List Loc} {Q : State → Prop} {cells slots : Nat}
variable {cc : ByteArray} {nL : Nat} {ret : Option FieldType} {own : String} {D : va_G} {cy : Nat → ClassId} {S : zSh} {ad ts : Nat → Nat} {ln : Nat → Nat} {σ : zSt} {pc : Nat} {ls : Array Slot} {rest : List Value}
theorem zE_obj {o : Nat} (ho : o < S.1) {C : String} {T : u_T} {N : Nat} (hc : vwCl[S.2.2.1 o]? = some (C, T, N)) : zE S ad cy ln σ o = .inr (S.2.2.1 o, (List.range N).map (zV S ad σ o)) := by
  unfold zE
  rw [if_pos ho]
  unfold zN
  rw [hc]
theorem zr_get (X : zX p s m args meth c D cy S ad ts cc nL ret own) (J : zJ D cy S ad ln s σ H locs) {C : String} {T : u_T} {N index : Nat} (o k : Nat) (ho : o < S.1) (hoT : o < S.2.1) (hc : vwCl[S.2.2.1 o]? = some (C, T, N)) (hin : ∀ w ∈ u_ws C T N, w ∈ gt) (hk : k < N) (hlink : Cond.fieldLink own index C (T k).2.1 (T k).2.2.1 ∈ gt) (hT1 : (T k).1 = C) {v : Value} (hv : zV S ad σ o k = v) (hdg : decode cc pc = .ok (.getfield index, 3))
    (kk : W p l e R s m args below meth c H locs cells slots Q (F0 m (pc + 3) ls (v :: rest))) : W p l e R s m args below meth c H locs cells slots Q (F0 m pc ls (.ref (ad o) :: rest)) := by
  obtain ⟨hx, hb, hml, hown, hts, hK, hi, hr, hlk, hnt, hzs⟩ := X
  refine va_get (D := D) (ci := S.2.2.1 o) (v := v) (C := C) (T := T) (N := N) hx hb hts hin hown hK J.1 o (fs := (List.range N).map (zV S ad σ o)) ?_ hc k hk (hts _ hlink) (fun x h => by rw [hT1] at h; exact h) ?_ hdg kk
  · rw [zW_at hoT, zE_obj ho hc]
  · rw [zF_at hk, hv]
theorem zr_put (X : zX p s m args meth c D cy S ad ts cc nL ret own) (J : zJ D cy S ad ln s σ H locs) {C : String} {T : u_T} {N index : Nat} (o k : Nat) (ho : o < S.1) (hoT : o < S.2.1) (hc : vwCl[S.2.2.1 o]? = some (C, T, N)) (hin : ∀ w ∈ u_ws C T N, w ∈ gt) (hk : k < N) (hlink : Cond.fieldLink own index C (T k).2.1 (T k).2.2.1 ∈ gt) (hT1 : (T k).1 = C)
    (ty0 : Nat → FieldType) (hty : ∀ k, k < N → parseFieldDescriptor (T k).2.2.1 = some (ty0 k)) (hnm : ∀ a, a < N → ∀ b, b < N → a ≠ b → (T a).2.1 ≠ (T b).2.1) (hfin : (T k).2.2.2 = false) {v : Value} (hn : narrow (ty0 k) v = v) (hfit : fits (ty0 k) v = true)
    {τ : zSt} (hv : zV S ad τ o k = v) (hV : ∀ i j, (i ≠ o ∨ j ≠ k) → zV S ad τ i j = zV S ad σ i j) (hA : ∀ i j, zA τ i j = zA σ i j) (hB : ∀ i j, zB τ i j = zB σ i j) (hdg : decode cc pc = .ok (.putfield index, 3))
    (kk : ∀ (H1 : Heap) (locs1 : List Loc), zJ D cy S ad ln s τ H1 locs1 → W p l e R s m args below meth c H1 locs1 cells slots Q (F0 m (pc + 3) ls rest)) : W p l e R s m args below meth c H locs cells slots Q (F0 m pc ls (v :: .ref (ad o) :: rest)) := by
  obtain ⟨hx, hb, hml, hown, hts, hK, hi, hr, hlk, hnt, hzs⟩ := X
  refine va_put (D := D) (ci := S.2.2.1 o) (v := v) (C := C) (T := T) (N := N) hx hb hts hin ty0 hty hnm hown hK J.1 (zW_D hi) J.2 o (fs := (List.range N).map (zV S ad σ o)) ?_ hc k hk (hts _ hlink) (fun x h => by rw [hT1] at h; exact h) hfin (hty k hk) hn hfit (by simpa using hk) hdg (fun H1 locs1 hP _ hS => kk H1 locs1 ⟨?_, hS⟩)
  · rw [zW_at hoT, zE_obj ho hc]
  · have h1 : ((List.range N).map (zV S ad σ o)).set k v = (List.range N).map (zV S ad τ o) := by
      rw [← hv]
      exact zF_set hk (fun j hj => hV o j (Or.inr hj))
    rw [h1, ← zE_obj (cy := cy) (ln := ln) ho hc, zW_set (fun i hi => zE_of (fun j => hV i j (Or.inl hi)) (hA i) (hB i))] at hP
    exact hP
theorem zr_getN (X : zX p s m args meth c D cy S ad ts cc nL ret own) (J : zJ D cy S ad ln s σ H locs) {C host : String} {T : u_T} {N index : Nat} (o k : Nat) (ho : o < S.1) (hoT : o < S.2.1) (hc : vwCl[S.2.2.1 o]? = some (C, T, N)) (hin : ∀ w ∈ u_ws C T N, w ∈ gt) (hk : k < N) (hlink : Cond.fieldLinkNest own index C (T k).2.1 (T k).2.2.1 host ∈ nt) (hT1 : (T k).1 = C) {v : Value} (hv : zV S ad σ o k = v) (hdg : decode cc pc = .ok (.getfield index, 3))
    (kk : W p l e R s m args below meth c H locs cells slots Q (F0 m (pc + 3) ls (v :: rest))) : W p l e R s m args below meth c H locs cells slots Q (F0 m pc ls (.ref (ad o) :: rest)) := by
  obtain ⟨hx, hb, hml, hown, hts, hK, hi, hr, hlk, hnt, hzs⟩ := X
  refine va_getN (host := host) (D := D) (ci := S.2.2.1 o) (v := v) (C := C) (T := T) (N := N) hx hb hts hin hown hK J.1 o (fs := (List.range N).map (zV S ad σ o)) ?_ hc k hk (va_Nw.use rfl (hnt _ hlink)) (fun x h => by rw [hT1] at h; exact h) ?_ hdg kk
  · rw [zW_at hoT, zE_obj ho hc]
  · rw [zF_at hk, hv]
theorem zr_putN (X : zX p s m args meth c D cy S ad ts cc nL ret own) (J : zJ D cy S ad ln s σ H locs) {C host : String} {T : u_T} {N index : Nat} (o k : Nat) (ho : o < S.1) (hoT : o < S.2.1) (hc : vwCl[S.2.2.1 o]? = some (C, T, N)) (hin : ∀ w ∈ u_ws C T N, w ∈ gt) (hk : k < N) (hlink : Cond.fieldLinkNest own index C (T k).2.1 (T k).2.2.1 host ∈ nt) (hT1 : (T k).1 = C)
    (ty0 : Nat → FieldType) (hty : ∀ k, k < N → parseFieldDescriptor (T k).2.2.1 = some (ty0 k)) (hnm : ∀ a, a < N → ∀ b, b < N → a ≠ b → (T a).2.1 ≠ (T b).2.1) (hfin : (T k).2.2.2 = false) {v : Value} (hn : narrow (ty0 k) v = v) (hfit : fits (ty0 k) v = true)
    {τ : zSt} (hv : zV S ad τ o k = v) (hV : ∀ i j, (i ≠ o ∨ j ≠ k) → zV S ad τ i j = zV S ad σ i j) (hA : ∀ i j, zA τ i j = zA σ i j) (hB : ∀ i j, zB τ i j = zB σ i j) (hdg : decode cc pc = .ok (.putfield index, 3))
    (kk : ∀ (H1 : Heap) (locs1 : List Loc), zJ D cy S ad ln s τ H1 locs1 → W p l e R s m args below meth c H1 locs1 cells slots Q (F0 m (pc + 3) ls rest)) : W p l e R s m args below meth c H locs cells slots Q (F0 m pc ls (v :: .ref (ad o) :: rest)) := by
  obtain ⟨hx, hb, hml, hown, hts, hK, hi, hr, hlk, hnt, hzs⟩ := X
  refine va_putN (host := host) (D := D) (ci := S.2.2.1 o) (v := v) (C := C) (T := T) (N := N) hx hb hts hin ty0 hty hnm hown hK J.1 (zW_D hi) J.2 o (fs := (List.range N).map (zV S ad σ o)) ?_ hc k hk (va_Nw.use rfl (hnt _ hlink)) (fun x h => by rw [hT1] at h; exact h) hfin (hty k hk) hn hfit (by simpa using hk) hdg (fun H1 locs1 hP _ hS => kk H1 locs1 ⟨?_, hS⟩)
  · rw [zW_at hoT, zE_obj ho hc]
  · have h1 : ((List.range N).map (zV S ad σ o)).set k v = (List.range N).map (zV S ad τ o) := by
      rw [← hv]
      exact zF_set hk (fun j hj => hV o j (Or.inr hj))
    rw [h1, ← zE_obj (cy := cy) (ln := ln) ho hc, zW_set (fun i hi => zE_of (fun j => hV i j (Or.inl hi)) (hA i) (hB i))] at hP
    exact hP
theorem zE_ai {q : Nat} (hq : ¬ q < S.1) (hk : S.2.2.2.2 q ≠ 1) : zE S ad cy ln σ q = .inl (cy (S.2.2.2.2 q), ln q, .inl (zA σ q)) := by
  unfold zE
  rw [if_neg hq, if_neg hk]
theorem zE_al {q : Nat} (hq : ¬ q < S.1) (hk : S.2.2.2.2 q = 1) : zE S ad cy ln σ q = .inl (cy (S.2.2.2.2 q), ln q, .inr (.inl (zB σ q))) := by
  unfold zE
  rw [if_neg hq, if_pos hk]
theorem zV_A {i j : Nat} (a k : Nat) (x : Int32) : zV S ad (zsA σ a k x) i j = zV S ad σ i j := rfl
theorem zV_B {i j : Nat} (a k : Nat) (x : Int64) : zV S ad (zsB σ a k x) i j = zV S ad σ i j := rfl
/-- a row of ints: one is read -/
theorem zr_iald (X : zX p s m args meth c D cy S ad ts cc nL ret own) (J : zJ D cy S ad ln s σ H locs) (q : Nat) (hq : ¬ q < S.1) (hqT : q < S.2.1) (hk : S.2.2.2.2 q = 0) {i : Int32} {n : Nat} (hn : ln q = n) (hin : ¬ (i < 0 ∨ n ≤ i.toNatClampNeg)) (hdg : decode cc pc = .ok (.iaload, 1))
    (kk : W p l e R s m args below meth c H locs cells slots Q (F0 m (pc + 1) ls (.int (zA σ q i.toNatClampNeg) :: rest))) : W p l e R s m args below meth c H locs cells slots Q (F0 m pc ls (.int i :: .ref (ad q) :: rest)) := by
  obtain ⟨hx, hb, hml, hown, hts, hK, hi, hr, hlk, hnt, hzs⟩ := X
  subst hn
  exact va_iald hx hb hK J.1 q 0 (f := zA σ q) (by rw [zW_at hqT, zE_ai hq (by rw [hk]; decide)]) (by rw [hk]; rfl) hin hdg kk
theorem zr_lald (X : zX p s m args meth c D cy S ad ts cc nL ret own) (J : zJ D cy S ad ln s σ H locs) (q : Nat) (hq : ¬ q < S.1) (hqT : q < S.2.1) (hk : S.2.2.2.2 q = 1) {i : Int32} {n : Nat} (hn : ln q = n) (hin : ¬ (i < 0 ∨ n ≤ i.toNatClampNeg)) (hdg : decode cc pc = .ok (.laload, 1))
    (kk : W p l e R s m args below meth c H locs cells slots Q (F0 m (pc + 1) ls (.long (zB σ q i.toNatClampNeg) :: rest))) : W p l e R s m args below meth c H locs cells slots Q (F0 m pc ls (.int i :: .ref (ad q) :: rest)) := by
  obtain ⟨hx, hb, hml, hown, hts, hK, hi, hr, hlk, hnt, hzs⟩ := X
  subst hn
  exact va_lald hx hb hK J.1 q 1 (f := zB σ q) (by rw [zW_at hqT, zE_al hq hk]) (by rw [hk]; rfl) hin hdg kk
theorem zr_zald (X : zX p s m args meth c D cy S ad ts cc nL ret own) (J : zJ D cy S ad ln s σ H locs) (q : Nat) (hq : ¬ q < S.1) (hqT : q < S.2.1) (hk : S.2.2.2.2 q = 2) {i : Int32} {n : Nat} (hn : ln q = n) (hin : ¬ (i < 0 ∨ n ≤ i.toNatClampNeg)) (hdg : decode cc pc = .ok (.baload, 1))
    (kk : W p l e R s m args below meth c H locs cells slots Q (F0 m (pc + 1) ls (.int (zA σ q i.toNatClampNeg) :: rest))) : W p l e R s m args below meth c H locs cells slots Q (F0 m pc ls (.int i :: .ref (ad q) :: rest)) := by
  obtain ⟨hx, hb, hml, hown, hts, hK, hi, hr, hlk, hnt, hzs⟩ := X
  subst hn
  exact va_zald hx hb hK J.1 q 2 (f := zA σ q) (by rw [zW_at hqT, zE_ai hq (by rw [hk]; decide)]) (by rw [hk]; rfl) hin hdg kk
theorem zr_iast (X : zX p s m args meth c D cy S ad ts cc nL ret own) (J : zJ D cy S ad ln s σ H locs) (q : Nat) (hq : ¬ q < S.1) (hqT : q < S.2.1) (hk : S.2.2.2.2 q = 0) {i x : Int32} {n : Nat} (hn : ln q = n) (hin : ¬ (i < 0 ∨ n ≤ i.toNatClampNeg)) (hdg : decode cc pc = .ok (.iastore, 1))
    (kk : ∀ (τ : zSt) (H1 : Heap) (locs1 : List Loc), τ = zsA σ q i.toNatClampNeg x → zJ D cy S ad ln s τ H1 locs1 → W p l e R s m args below meth c H1 locs1 cells slots Q (F0 m (pc + 1) ls rest)) : W p l e R s m args below meth c H locs cells slots Q (F0 m pc ls (.int x :: .int i :: .ref (ad q) :: rest)) := by
  obtain ⟨hx, hb, hml, hown, hts, hK, hi, hr, hlk, hnt, hzs⟩ := X
  subst hn
  refine va_iast hx hb hK J.1 (zW_D hi) J.2 q 0 (f := zA σ q) (by rw [zW_at hqT, zE_ai hq (by rw [hk]; decide)]) (by rw [hk]; rfl) hin hdg (fun H1 locs1 hP _ hS => kk _ H1 locs1 rfl ⟨?_, hS⟩)
  rw [← zA_u, ← zE_ai (cy := cy) (ln := ln) (S := S) (ad := ad) (σ := zsA σ q i.toNatClampNeg x) hq (by rw [hk]; decide), zW_set (fun j hj => zE_of (fun k => zV_A _ _ _) (fun k => zA_o hj) (fun k => rfl))] at hP
  exact hP
theorem zr_zast (X : zX p s m args meth c D cy S ad ts cc nL ret own) (J : zJ D cy S ad ln s σ H locs) (q : Nat) (hq : ¬ q < S.1) (hqT : q < S.2.1) (hk : S.2.2.2.2 q = 2) {i x : Int32} {n : Nat} (hn : ln q = n) (hin : ¬ (i < 0 ∨ n ≤ i.toNatClampNeg)) (h01 : x = 0 ∨ x = 1) (hdg : decode cc pc = .ok (.bastore, 1))
    (kk : ∀ (τ : zSt) (H1 : Heap) (locs1 : List Loc), τ = zsA σ q i.toNatClampNeg x → zJ D cy S ad ln s τ H1 locs1 → W p l e R s m args below meth c H1 locs1 cells slots Q (F0 m (pc + 1) ls rest)) : W p l e R s m args below meth c H locs cells slots Q (F0 m pc ls (.int x :: .int i :: .ref (ad q) :: rest)) := by
  obtain ⟨hx, hb, hml, hown, hts, hK, hi, hr, hlk, hnt, hzs⟩ := X
  subst hn
  refine va_zast hx hb hK J.1 (zW_D hi) J.2 q 2 (f := zA σ q) (by rw [zW_at hqT, zE_ai hq (by rw [hk]; decide)]) (by rw [hk]; rfl) hin hdg (fun H1 locs1 hP _ hS => kk _ H1 locs1 rfl ⟨?_, hS⟩)
  rw [z01n h01, ← zA_u, ← zE_ai (cy := cy) (ln := ln) (S := S) (ad := ad) (σ := zsA σ q i.toNatClampNeg x) hq (by rw [hk]; decide), zW_set (fun j hj => zE_of (fun k => zV_A _ _ _) (fun k => zA_o hj) (fun k => rfl))] at hP
  exact hP
theorem zr_last (X : zX p s m args meth c D cy S ad ts cc nL ret own) (J : zJ D cy S ad ln s σ H locs) (q : Nat) (hq : ¬ q < S.1) (hqT : q < S.2.1) (hk : S.2.2.2.2 q = 1) {i : Int32} {x : Int64} {n : Nat} (hn : ln q = n) (hin : ¬ (i < 0 ∨ n ≤ i.toNatClampNeg)) (hdg : decode cc pc = .ok (.lastore, 1))
    (kk : ∀ (τ : zSt) (H1 : Heap) (locs1 : List Loc), τ = zsB σ q i.toNatClampNeg x → zJ D cy S ad ln s τ H1 locs1 → W p l e R s m args below meth c H1 locs1 cells slots Q (F0 m (pc + 1) ls rest)) : W p l e R s m args below meth c H locs cells slots Q (F0 m pc ls (.long x :: .int i :: .ref (ad q) :: rest)) := by
  obtain ⟨hx, hb, hml, hown, hts, hK, hi, hr, hlk, hnt, hzs⟩ := X
  subst hn
  refine va_last hx hb hK J.1 (zW_D hi) J.2 q 1 (f := zB σ q) (by rw [zW_at hqT, zE_al hq hk]) (by rw [hk]; rfl) hin hdg (fun H1 locs1 hP _ hS => kk _ H1 locs1 rfl ⟨?_, hS⟩)
  rw [← zB_u, ← zE_al (cy := cy) (ln := ln) (S := S) (ad := ad) (σ := zsB σ q i.toNatClampNeg x) hq hk, zW_set (fun j hj => zE_of (fun k => zV_B _ _ _) (fun k => rfl) (fun k => zB_o hj))] at hP
  exact hP
theorem zr_alen (X : zX p s m args meth c D cy S ad ts cc nL ret own) (J : zJ D cy S ad ln s σ H locs) (q : Nat) (hq : ¬ q < S.1) (hqT : q < S.2.1) {k : Nat} (hk : S.2.2.2.2 q = k) (hk3 : k < 3) (hdg : decode cc pc = .ok (.arraylength, 1))
    (kk : W p l e R s m args below meth c H locs cells slots Q (F0 m (pc + 1) ls (.int (nI (ln q)) :: rest))) : W p l e R s m args below meth c H locs cells slots Q (F0 m pc ls (.ref (ad q) :: rest)) := by
  obtain ⟨hx, hb, hml, hown, hts, hK, hi, hr, hlk, hnt, hzs⟩ := X
  have h9 : ∃ x : vp_A, zE S ad cy ln σ q = .inl (cy k, x) ∧ x.1 = ln q := by
    by_cases h1 : S.2.2.2.2 q = 1
    · exact ⟨_, by rw [zE_al hq h1, hk], rfl⟩
    · exact ⟨_, by rw [zE_ai hq h1, hk], rfl⟩
  obtain ⟨x, hx9, hl9⟩ := h9
  have ht : ∃ ty, (zTy cy)[k]? = some (cy k, ty) := by
    rcases k with _ | _ | _ | k
    · exact ⟨_, rfl⟩
    · exact ⟨_, rfl⟩
    · exact ⟨_, rfl⟩
    · omega
  obtain ⟨ty, ht⟩ := ht
  exact va_alen hx hb hK J.1 q k (x := x) (by rw [zW_at hqT, hx9]) ht (by rw [hl9]; rfl) hdg kk
end ZR

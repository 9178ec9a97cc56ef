/-! THE LAW: what stands while its loop runs; its cases (written by law.py) -/
/-- what stays while the law's loop runs -/
def LC (p : Program) (s : State) (m : MethodId) (c : Code) (D : va_G) (cy : Nat → ClassId) (b L : Nat) (xs : Nat → Int32) (ad1 ad2 ts : Nat → Nat) : Prop := nX p s m #[Value.ref b] c D cy cL_law 4 RL ∧ zStat (fun q => s.heap.size ≤ q) ts s ∧ va_X b L xs s s.heap ∧ b < s.heap.size ∧ (zIn shC ad1 ∧ ∀ q, zAd shC ad1 q → s.heap.size ≤ q) ∧ (zIn shR ad2 ∧ ∀ q, zAd shR ad2 q → s.heap.size ≤ q) ∧ (∀ i j, i < 47 → j < 49 → ad1 i ≠ ad2 j) ∧ L ≤ 1029
theorem ap12 {cy : Nat → ClassId} {ad1 ad2 : Nat → Nat} {τ : zSt} (h : ∀ i j, i < 47 → j < 49 → ad1 i ≠ ad2 j) : ∀ (k : Nat) (q : Nat × va_E), (zW shR ad2 cy lnR τ)[k]? = some q → ¬ zAd shC ad1 q.1 := by
  rintro k q hq ⟨i, hi, e⟩
  obtain ⟨hk, rfl⟩ := zW_inv hq
  exact h i k hi hk e
theorem ap21 {cy : Nat → ClassId} {ad1 ad2 : Nat → Nat} {ln : Nat → Nat} {σ : zSt} (h : ∀ i j, i < 47 → j < 49 → ad1 i ≠ ad2 j) : ∀ (k : Nat) (q : Nat × va_E), (zW shC ad1 cy ln σ)[k]? = some q → ¬ zAd shR ad2 q.1 := by
  rintro k q hq ⟨i, hi, e⟩
  obtain ⟨hk, rfl⟩ := zW_inv hq
  exact h k i hk hi e.symm
section
variable {p : Program} {l : Launch} {e : Env} {s : State} {m : MethodId} {below : List Frame} {meth : Method} {c : Code} {H : Heap} {locs : List Loc} {Q : State → Prop} {D : va_G} {cy : Nat → ClassId} {b L : Nat} {xs : Nat → Int32} {ad1 ad2 ts : Nat → Nat} {ln : Nat → Nat} {tx tc cc mc io k N : Nat} {σ τ : zSt} {ls : Array Slot}

set_option maxHeartbeats 4000000 in
set_option maxRecDepth 100000 in
theorem lw_c0 (hC : LC p s m c D cy b L xs ad1 ad2 ts) (hN : 2 ^ 31 ≤ N) (hi : 5 + 2 * k + 2 ≤ L) (hR : Rel ln tx tc cc mc io k σ τ) (J : LJ D (fun q => s.heap.size ≤ q) s.heap (zW shC ad1 cy ln σ) (zW shR ad2 cy lnR τ) H locs) (hl : lv_has ls 4 [(3, .int (nI (5 + 2 * k))), (2, .ref (ad2 0)), (1, .ref (ad1 0)), (0, .ref b)]) (kk : ∀ (σ' τ' : zSt) (H : Heap) (locs : List Loc), Rel ln tx tc cc mc io (k + 1) σ' τ' → LJ D (fun q => s.heap.size ≤ q) s.heap (zW shC ad1 cy ln σ') (zW shR ad2 cy lnR τ') H locs → W p l e room_1 s m #[Value.ref b] below meth c H locs 100 400000 Q (F0 m 341 ls [])) : W p l e room_1 s m #[Value.ref b] below meth c H locs 100 400000 Q (F0 m 140 ls []) := by
  obtain ⟨X, hst, hX, hbl, ⟨hI1, hA1⟩, ⟨hI2, hA2⟩, hap, hL⟩ := hC
  have hx := X.1
  have hb := X.2.1
  have hbA : ¬ (fun q : Nat => s.heap.size ≤ q) b := Nat.not_le.mpr hbl
  have ei : nI (5 + 2 * k) + (1 : Int32) = nI (5 + 2 * k + 1) := nI_add _ 1
  obtain ⟨v, σ', τ', g1, g2, g3⟩ := Rel_feed (N := N) (M := 43) (v := xs (5 + 2 * k + 1)) hR
  refine lv_aload_n hx hb dL_law_140 rfl (lv_at hl 2 rfl) ?_
  refine lv_aload_n hx hb dL_law_141 rfl (lv_at hl 3 rfl) ?_
  refine lv_iload_n hx hb dL_law_142 rfl (lv_at hl 0 rfl) ?_
  refine lv_iconst (v := (1 : Int32)) hx hb dL_law_143 (by decide) ?_
  refine lv_iadd hx hb dL_law_144 ?_
  rw [ei]
  refine va_sld hx hb hX hbl hbA J.2.2 (ix_ok (by omega) (by omega)) dL_law_145 ?_
  rw [nI_clamp (by omega)]
  refine nr_zi (As := [.int (xs (5 + 2 * k + 1))]) (rest := []) X hst J hI1 hA1 (ap12 hap) (y := yX11_feed) (T := TX11) (N := 7) 0 (by decide) (by decide) rfl yy_X11_feed mv_methodLink_TinyCLaw_21_TinyC_feed_II ⟨Nat.le_of_ble_eq_true rfl, Nat.le_of_ble_eq_true rfl⟩ hl.1 rfl (Nat.le_of_ble_eq_true rfl) (tX11_feed (N := N) (M := 43) g1) dL_law_146 ⟨Nat.le_of_ble_eq_true rfl, Nat.le_of_ble_eq_true rfl⟩ (fun H locs J => ?_)
  refine lv_aload_n hx hb dL_law_149 rfl (lv_at hl 1 rfl) ?_
  refine lv_aload_n hx hb dL_law_150 rfl (lv_at hl 3 rfl) ?_
  refine lv_iload_n hx hb dL_law_151 rfl (lv_at hl 0 rfl) ?_
  refine lv_iconst (v := (1 : Int32)) hx hb dL_law_152 (by decide) ?_
  refine lv_iadd hx hb dL_law_153 ?_
  rw [ei]
  refine va_sld hx hb hX hbl hbA J.2.2 (ix_ok (by omega) (by omega)) dL_law_154 ?_
  rw [nI_clamp (by omega)]
  refine nr_zi (As := [.int (xs (5 + 2 * k + 1))]) (rest := [.int v]) X hst J.swap hI2 hA2 (ap21 hap) (y := yX12_feed) (T := TX12) (N := 88) 0 (by decide) (by decide) rfl yy_X12_feed mv_methodLink_TinyCLaw_25_TinyCModel_feed_II ⟨Nat.le_of_ble_eq_true rfl, Nat.le_of_ble_eq_true rfl⟩ hl.1 rfl (Nat.le_of_ble_eq_true rfl) (tX12_feed (N := N) g2) dL_law_155 ⟨Nat.le_of_ble_eq_true rfl, Nat.le_of_ble_eq_true rfl⟩ (fun H locs J => ?_)
  refine lv_icmp_eq hx hb dL_law_158 rfl (fun _ => ?_) (fun h => absurd rfl h)
  exact kk σ' τ' H locs g3 J.swap

set_option maxHeartbeats 4000000 in
set_option maxRecDepth 100000 in
theorem lw_c1 (hC : LC p s m c D cy b L xs ad1 ad2 ts) (hN : 2 ^ 31 ≤ N) (hi : 5 + 2 * k + 2 ≤ L) (hR : Rel ln tx tc cc mc io k σ τ) (J : LJ D (fun q => s.heap.size ≤ q) s.heap (zW shC ad1 cy ln σ) (zW shR ad2 cy lnR τ) H locs) (hl : lv_has ls 4 [(3, .int (nI (5 + 2 * k))), (2, .ref (ad2 0)), (1, .ref (ad1 0)), (0, .ref b)]) (kk : ∀ (σ' τ' : zSt) (H : Heap) (locs : List Loc), Rel ln tx tc cc mc io (k + 1) σ' τ' → LJ D (fun q => s.heap.size ≤ q) s.heap (zW shC ad1 cy ln σ') (zW shR ad2 cy lnR τ') H locs → W p l e room_1 s m #[Value.ref b] below meth c H locs 100 400000 Q (F0 m 341 ls [])) : W p l e room_1 s m #[Value.ref b] below meth c H locs 100 400000 Q (F0 m 163 ls []) := by
  obtain ⟨X, hst, hX, hbl, ⟨hI1, hA1⟩, ⟨hI2, hA2⟩, hap, hL⟩ := hC
  have hx := X.1
  have hb := X.2.1
  have hbA : ¬ (fun q : Nat => s.heap.size ≤ q) b := Nat.not_le.mpr hbl
  have ei : nI (5 + 2 * k) + (1 : Int32) = nI (5 + 2 * k + 1) := nI_add _ 1
  obtain ⟨v, σ', τ', g1, g2, g3⟩ := Rel_compile (N := N) (M := 43) (by omega) (by omega) (by omega) hR
  refine lv_aload_n hx hb dL_law_163 rfl (lv_at hl 2 rfl) ?_
  refine nr_zi (As := []) (rest := []) X hst J hI1 hA1 (ap12 hap) (y := yX11_compile) (T := TX11) (N := 7) 0 (by decide) (by decide) rfl yy_X11_compile mv_methodLink_TinyCLaw_26_TinyC_compile_I ⟨Nat.le_of_ble_eq_true rfl, Nat.le_of_ble_eq_true rfl⟩ hl.1 rfl (Nat.le_of_ble_eq_true rfl) (tX11_compile (N := N) (M := 43) g1) dL_law_164 ⟨Nat.le_of_ble_eq_true rfl, Nat.le_of_ble_eq_true rfl⟩ (fun H locs J => ?_)
  refine lv_aload_n hx hb dL_law_167 rfl (lv_at hl 1 rfl) ?_
  refine nr_zi (As := []) (rest := [.int v]) X hst J.swap hI2 hA2 (ap21 hap) (y := yX12_compile) (T := TX12) (N := 88) 0 (by decide) (by decide) rfl yy_X12_compile mv_methodLink_TinyCLaw_30_TinyCModel_compile_I ⟨Nat.le_of_ble_eq_true rfl, Nat.le_of_ble_eq_true rfl⟩ hl.1 rfl (Nat.le_of_ble_eq_true rfl) (tX12_compile (N := N) g2) dL_law_168 ⟨Nat.le_of_ble_eq_true rfl, Nat.le_of_ble_eq_true rfl⟩ (fun H locs J => ?_)
  refine lv_icmp_eq hx hb dL_law_171 rfl (fun _ => ?_) (fun h => absurd rfl h)
  exact kk σ' τ' H locs (Rel_up (by omega) g3) J.swap

set_option maxHeartbeats 4000000 in
set_option maxRecDepth 100000 in
theorem lw_c2 (hC : LC p s m c D cy b L xs ad1 ad2 ts) (hN : 2 ^ 31 ≤ N) (hi : 5 + 2 * k + 2 ≤ L) (hR : Rel ln tx tc cc mc io k σ τ) (J : LJ D (fun q => s.heap.size ≤ q) s.heap (zW shC ad1 cy ln σ) (zW shR ad2 cy lnR τ) H locs) (hl : lv_has ls 4 [(3, .int (nI (5 + 2 * k))), (2, .ref (ad2 0)), (1, .ref (ad1 0)), (0, .ref b)]) (kk : ∀ (σ' τ' : zSt) (H : Heap) (locs : List Loc), Rel ln tx tc cc mc io (k + 1) σ' τ' → LJ D (fun q => s.heap.size ≤ q) s.heap (zW shC ad1 cy ln σ') (zW shR ad2 cy lnR τ') H locs → W p l e room_1 s m #[Value.ref b] below meth c H locs 100 400000 Q (F0 m 341 ls [])) : W p l e room_1 s m #[Value.ref b] below meth c H locs 100 400000 Q (F0 m 176 ls []) := by
  obtain ⟨X, hst, hX, hbl, ⟨hI1, hA1⟩, ⟨hI2, hA2⟩, hap, hL⟩ := hC
  have hx := X.1
  have hb := X.2.1
  have hbA : ¬ (fun q : Nat => s.heap.size ≤ q) b := Nat.not_le.mpr hbl
  have ei : nI (5 + 2 * k) + (1 : Int32) = nI (5 + 2 * k + 1) := nI_add _ 1
  obtain ⟨v, σ', τ', g1, g2, g3⟩ := Rel_input (N := N) (M := 43) (v := xs (5 + 2 * k + 1)) hR
  refine lv_aload_n hx hb dL_law_176 rfl (lv_at hl 2 rfl) ?_
  refine lv_aload_n hx hb dL_law_177 rfl (lv_at hl 3 rfl) ?_
  refine lv_iload_n hx hb dL_law_178 rfl (lv_at hl 0 rfl) ?_
  refine lv_iconst (v := (1 : Int32)) hx hb dL_law_179 (by decide) ?_
  refine lv_iadd hx hb dL_law_180 ?_
  rw [ei]
  refine va_sld hx hb hX hbl hbA J.2.2 (ix_ok (by omega) (by omega)) dL_law_181 ?_
  rw [nI_clamp (by omega)]
  refine nr_zi (As := [.int (xs (5 + 2 * k + 1))]) (rest := []) X hst J hI1 hA1 (ap12 hap) (y := yX11_input) (T := TX11) (N := 7) 0 (by decide) (by decide) rfl yy_X11_input mv_methodLink_TinyCLaw_31_TinyC_input_II ⟨Nat.le_of_ble_eq_true rfl, Nat.le_of_ble_eq_true rfl⟩ hl.1 rfl (Nat.le_of_ble_eq_true rfl) (tX11_input (N := N) (M := 43) g1) dL_law_182 ⟨Nat.le_of_ble_eq_true rfl, Nat.le_of_ble_eq_true rfl⟩ (fun H locs J => ?_)
  refine lv_aload_n hx hb dL_law_185 rfl (lv_at hl 1 rfl) ?_
  refine lv_aload_n hx hb dL_law_186 rfl (lv_at hl 3 rfl) ?_
  refine lv_iload_n hx hb dL_law_187 rfl (lv_at hl 0 rfl) ?_
  refine lv_iconst (v := (1 : Int32)) hx hb dL_law_188 (by decide) ?_
  refine lv_iadd hx hb dL_law_189 ?_
  rw [ei]
  refine va_sld hx hb hX hbl hbA J.2.2 (ix_ok (by omega) (by omega)) dL_law_190 ?_
  rw [nI_clamp (by omega)]
  refine nr_zi (As := [.int (xs (5 + 2 * k + 1))]) (rest := [.int v]) X hst J.swap hI2 hA2 (ap21 hap) (y := yX12_input) (T := TX12) (N := 88) 0 (by decide) (by decide) rfl yy_X12_input mv_methodLink_TinyCLaw_34_TinyCModel_input_II ⟨Nat.le_of_ble_eq_true rfl, Nat.le_of_ble_eq_true rfl⟩ hl.1 rfl (Nat.le_of_ble_eq_true rfl) (tX12_input (N := N) g2) dL_law_191 ⟨Nat.le_of_ble_eq_true rfl, Nat.le_of_ble_eq_true rfl⟩ (fun H locs J => ?_)
  refine lv_icmp_eq hx hb dL_law_194 rfl (fun _ => ?_) (fun h => absurd rfl h)
  exact kk σ' τ' H locs (Rel_up (by omega) g3) J.swap

set_option maxHeartbeats 4000000 in
set_option maxRecDepth 100000 in
theorem lw_c3 (hC : LC p s m c D cy b L xs ad1 ad2 ts) (hN : 2 ^ 31 ≤ N) (hi : 5 + 2 * k + 2 ≤ L) (hR : Rel ln tx tc cc mc io k σ τ) (J : LJ D (fun q => s.heap.size ≤ q) s.heap (zW shC ad1 cy ln σ) (zW shR ad2 cy lnR τ) H locs) (hl : lv_has ls 4 [(3, .int (nI (5 + 2 * k))), (2, .ref (ad2 0)), (1, .ref (ad1 0)), (0, .ref b)]) (kk : ∀ (σ' τ' : zSt) (H : Heap) (locs : List Loc), Rel ln tx tc cc mc io (k + 1) σ' τ' → LJ D (fun q => s.heap.size ≤ q) s.heap (zW shC ad1 cy ln σ') (zW shR ad2 cy lnR τ') H locs → W p l e room_1 s m #[Value.ref b] below meth c H locs 100 400000 Q (F0 m 341 ls [])) : W p l e room_1 s m #[Value.ref b] below meth c H locs 100 400000 Q (F0 m 199 ls []) := by
  obtain ⟨X, hst, hX, hbl, ⟨hI1, hA1⟩, ⟨hI2, hA2⟩, hap, hL⟩ := hC
  have hx := X.1
  have hb := X.2.1
  have hbA : ¬ (fun q : Nat => s.heap.size ≤ q) b := Nat.not_le.mpr hbl
  have ei : nI (5 + 2 * k) + (1 : Int32) = nI (5 + 2 * k + 1) := nI_add _ 1
  obtain ⟨v, σ', τ', g1, g2, g3⟩ := Rel_step (N := N) (M := 43) hN hR
  refine lv_aload_n hx hb dL_law_199 rfl (lv_at hl 2 rfl) ?_
  refine nr_zi (As := []) (rest := []) X hst J hI1 hA1 (ap12 hap) (y := yX11_step) (T := TX11) (N := 7) 0 (by decide) (by decide) rfl yy_X11_step mv_methodLink_TinyCLaw_35_TinyC_step_I ⟨Nat.le_of_ble_eq_true rfl, Nat.le_of_ble_eq_true rfl⟩ hl.1 rfl (Nat.le_of_ble_eq_true rfl) (tX11_step (N := N) (M := 43) g1) dL_law_200 ⟨Nat.le_of_ble_eq_true rfl, Nat.le_of_ble_eq_true rfl⟩ (fun H locs J => ?_)
  refine lv_aload_n hx hb dL_law_203 rfl (lv_at hl 1 rfl) ?_
  refine nr_zi (As := []) (rest := [.int v]) X hst J.swap hI2 hA2 (ap21 hap) (y := yX12_step) (T := TX12) (N := 88) 0 (by decide) (by decide) rfl yy_X12_step mv_methodLink_TinyCLaw_38_TinyCModel_step_I ⟨Nat.le_of_ble_eq_true rfl, Nat.le_of_ble_eq_true rfl⟩ hl.1 rfl (Nat.le_of_ble_eq_true rfl) (tX12_step (N := N) g2) dL_law_204 ⟨Nat.le_of_ble_eq_true rfl, Nat.le_of_ble_eq_true rfl⟩ (fun H locs J => ?_)
  refine lv_icmp_eq hx hb dL_law_207 rfl (fun _ => ?_) (fun h => absurd rfl h)
  exact kk σ' τ' H locs (Rel_up (by omega) g3) J.swap

set_option maxHeartbeats 4000000 in
set_option maxRecDepth 100000 in
theorem lw_c4 (hC : LC p s m c D cy b L xs ad1 ad2 ts) (hN : 2 ^ 31 ≤ N) (hi : 5 + 2 * k + 2 ≤ L) (hR : Rel ln tx tc cc mc io k σ τ) (J : LJ D (fun q => s.heap.size ≤ q) s.heap (zW shC ad1 cy ln σ) (zW shR ad2 cy lnR τ) H locs) (hl : lv_has ls 4 [(3, .int (nI (5 + 2 * k))), (2, .ref (ad2 0)), (1, .ref (ad1 0)), (0, .ref b)]) (kk : ∀ (σ' τ' : zSt) (H : Heap) (locs : List Loc), Rel ln tx tc cc mc io (k + 1) σ' τ' → LJ D (fun q => s.heap.size ≤ q) s.heap (zW shC ad1 cy ln σ') (zW shR ad2 cy lnR τ') H locs → W p l e room_1 s m #[Value.ref b] below meth c H locs 100 400000 Q (F0 m 341 ls [])) : W p l e room_1 s m #[Value.ref b] below meth c H locs 100 400000 Q (F0 m 212 ls []) := by
  obtain ⟨X, hst, hX, hbl, ⟨hI1, hA1⟩, ⟨hI2, hA2⟩, hap, hL⟩ := hC
  have hx := X.1
  have hb := X.2.1
  have hbA : ¬ (fun q : Nat => s.heap.size ≤ q) b := Nat.not_le.mpr hbl
  have ei : nI (5 + 2 * k) + (1 : Int32) = nI (5 + 2 * k + 1) := nI_add _ 1
  obtain ⟨v, σ', τ', g1, g2, g3⟩ := Rel_run (N := N) (M := 43) (a := xs (5 + 2 * k + 1)) hN hR
  refine lv_aload_n hx hb dL_law_212 rfl (lv_at hl 2 rfl) ?_
  refine lv_aload_n hx hb dL_law_213 rfl (lv_at hl 3 rfl) ?_
  refine lv_iload_n hx hb dL_law_214 rfl (lv_at hl 0 rfl) ?_
  refine lv_iconst (v := (1 : Int32)) hx hb dL_law_215 (by decide) ?_
  refine lv_iadd hx hb dL_law_216 ?_
  rw [ei]
  refine va_sld hx hb hX hbl hbA J.2.2 (ix_ok (by omega) (by omega)) dL_law_217 ?_
  rw [nI_clamp (by omega)]
  refine nr_zi (As := [.int (xs (5 + 2 * k + 1))]) (rest := []) X hst J hI1 hA1 (ap12 hap) (y := yX11_run) (T := TX11) (N := 7) 0 (by decide) (by decide) rfl yy_X11_run mv_methodLink_TinyCLaw_39_TinyC_run_II ⟨Nat.le_of_ble_eq_true rfl, Nat.le_of_ble_eq_true rfl⟩ hl.1 rfl (Nat.le_of_ble_eq_true rfl) (tX11_run (N := N) (M := 43) g1) dL_law_218 ⟨Nat.le_of_ble_eq_true rfl, Nat.le_of_ble_eq_true rfl⟩ (fun H locs J => ?_)
  refine lv_aload_n hx hb dL_law_221 rfl (lv_at hl 1 rfl) ?_
  refine lv_aload_n hx hb dL_law_222 rfl (lv_at hl 3 rfl) ?_
  refine lv_iload_n hx hb dL_law_223 rfl (lv_at hl 0 rfl) ?_
  refine lv_iconst (v := (1 : Int32)) hx hb dL_law_224 (by decide) ?_
  refine lv_iadd hx hb dL_law_225 ?_
  rw [ei]
  refine va_sld hx hb hX hbl hbA J.2.2 (ix_ok (by omega) (by omega)) dL_law_226 ?_
  rw [nI_clamp (by omega)]
  refine nr_zi (As := [.int (xs (5 + 2 * k + 1))]) (rest := [.int v]) X hst J.swap hI2 hA2 (ap21 hap) (y := yX12_run) (T := TX12) (N := 88) 0 (by decide) (by decide) rfl yy_X12_run mv_methodLink_TinyCLaw_42_TinyCModel_run_II ⟨Nat.le_of_ble_eq_true rfl, Nat.le_of_ble_eq_true rfl⟩ hl.1 rfl (Nat.le_of_ble_eq_true rfl) (tX12_run (N := N) g2) dL_law_227 ⟨Nat.le_of_ble_eq_true rfl, Nat.le_of_ble_eq_true rfl⟩ (fun H locs J => ?_)
  refine lv_icmp_eq hx hb dL_law_230 rfl (fun _ => ?_) (fun h => absurd rfl h)
  exact kk σ' τ' H locs (Rel_up (by omega) g3) J.swap

set_option maxHeartbeats 4000000 in
set_option maxRecDepth 100000 in
theorem lw_c5 (hC : LC p s m c D cy b L xs ad1 ad2 ts) (hN : 2 ^ 31 ≤ N) (hi : 5 + 2 * k + 2 ≤ L) (hR : Rel ln tx tc cc mc io k σ τ) (J : LJ D (fun q => s.heap.size ≤ q) s.heap (zW shC ad1 cy ln σ) (zW shR ad2 cy lnR τ) H locs) (hl : lv_has ls 4 [(3, .int (nI (5 + 2 * k))), (2, .ref (ad2 0)), (1, .ref (ad1 0)), (0, .ref b)]) (kk : ∀ (σ' τ' : zSt) (H : Heap) (locs : List Loc), Rel ln tx tc cc mc io (k + 1) σ' τ' → LJ D (fun q => s.heap.size ≤ q) s.heap (zW shC ad1 cy ln σ') (zW shR ad2 cy lnR τ') H locs → W p l e room_1 s m #[Value.ref b] below meth c H locs 100 400000 Q (F0 m 341 ls [])) : W p l e room_1 s m #[Value.ref b] below meth c H locs 100 400000 Q (F0 m 235 ls []) := by
  obtain ⟨X, hst, hX, hbl, ⟨hI1, hA1⟩, ⟨hI2, hA2⟩, hap, hL⟩ := hC
  have hx := X.1
  have hb := X.2.1
  have hbA : ¬ (fun q : Nat => s.heap.size ≤ q) b := Nat.not_le.mpr hbl
  have ei : nI (5 + 2 * k) + (1 : Int32) = nI (5 + 2 * k + 1) := nI_add _ 1
  obtain ⟨v, σ', τ', g1, g2, g3⟩ := Rel_int (N := N) (M := 43) (a := xs (5 + 2 * k + 1)) hN hR
  refine lv_aload_n hx hb dL_law_235 rfl (lv_at hl 2 rfl) ?_
  refine lv_aload_n hx hb dL_law_236 rfl (lv_at hl 3 rfl) ?_
  refine lv_iload_n hx hb dL_law_237 rfl (lv_at hl 0 rfl) ?_
  refine lv_iconst (v := (1 : Int32)) hx hb dL_law_238 (by decide) ?_
  refine lv_iadd hx hb dL_law_239 ?_
  rw [ei]
  refine va_sld hx hb hX hbl hbA J.2.2 (ix_ok (by omega) (by omega)) dL_law_240 ?_
  rw [nI_clamp (by omega)]
  refine nr_zi (As := [.int (xs (5 + 2 * k + 1))]) (rest := []) X hst J hI1 hA1 (ap12 hap) (y := yX11_interpret) (T := TX11) (N := 7) 0 (by decide) (by decide) rfl yy_X11_interpret mv_methodLink_TinyCLaw_43_TinyC_interpret_II ⟨Nat.le_of_ble_eq_true rfl, Nat.le_of_ble_eq_true rfl⟩ hl.1 rfl (Nat.le_of_ble_eq_true rfl) (tX11_interpret (N := N) (M := 43) g1) dL_law_241 ⟨Nat.le_of_ble_eq_true rfl, Nat.le_of_ble_eq_true rfl⟩ (fun H locs J => ?_)
  refine lv_aload_n hx hb dL_law_244 rfl (lv_at hl 1 rfl) ?_
  refine lv_aload_n hx hb dL_law_245 rfl (lv_at hl 3 rfl) ?_
  refine lv_iload_n hx hb dL_law_246 rfl (lv_at hl 0 rfl) ?_
  refine lv_iconst (v := (1 : Int32)) hx hb dL_law_247 (by decide) ?_
  refine lv_iadd hx hb dL_law_248 ?_
  rw [ei]
  refine va_sld hx hb hX hbl hbA J.2.2 (ix_ok (by omega) (by omega)) dL_law_249 ?_
  rw [nI_clamp (by omega)]
  refine nr_zi (As := [.int (xs (5 + 2 * k + 1))]) (rest := [.int v]) X hst J.swap hI2 hA2 (ap21 hap) (y := yX12_interpret) (T := TX12) (N := 88) 0 (by decide) (by decide) rfl yy_X12_interpret mv_methodLink_TinyCLaw_46_TinyCModel_interpret_II ⟨Nat.le_of_ble_eq_true rfl, Nat.le_of_ble_eq_true rfl⟩ hl.1 rfl (Nat.le_of_ble_eq_true rfl) (tX12_interpret (N := N) g2) dL_law_250 ⟨Nat.le_of_ble_eq_true rfl, Nat.le_of_ble_eq_true rfl⟩ (fun H locs J => ?_)
  refine lv_icmp_eq hx hb dL_law_253 rfl (fun _ => ?_) (fun h => absurd rfl h)
  exact kk σ' τ' H locs (Rel_up (by omega) g3) J.swap

set_option maxHeartbeats 4000000 in
set_option maxRecDepth 100000 in
theorem lw_c6 (hC : LC p s m c D cy b L xs ad1 ad2 ts) (hN : 2 ^ 31 ≤ N) (hi : 5 + 2 * k + 2 ≤ L) (hR : Rel ln tx tc cc mc io k σ τ) (J : LJ D (fun q => s.heap.size ≤ q) s.heap (zW shC ad1 cy ln σ) (zW shR ad2 cy lnR τ) H locs) (hl : lv_has ls 4 [(3, .int (nI (5 + 2 * k))), (2, .ref (ad2 0)), (1, .ref (ad1 0)), (0, .ref b)]) (kk : ∀ (σ' τ' : zSt) (H : Heap) (locs : List Loc), Rel ln tx tc cc mc io (k + 1) σ' τ' → LJ D (fun q => s.heap.size ≤ q) s.heap (zW shC ad1 cy ln σ') (zW shR ad2 cy lnR τ') H locs → W p l e room_1 s m #[Value.ref b] below meth c H locs 100 400000 Q (F0 m 341 ls [])) : W p l e room_1 s m #[Value.ref b] below meth c H locs 100 400000 Q (F0 m 258 ls []) := by
  obtain ⟨X, hst, hX, hbl, ⟨hI1, hA1⟩, ⟨hI2, hA2⟩, hap, hL⟩ := hC
  have hx := X.1
  have hb := X.2.1
  have hbA : ¬ (fun q : Nat => s.heap.size ≤ q) b := Nat.not_le.mpr hbl
  have ei : nI (5 + 2 * k) + (1 : Int32) = nI (5 + 2 * k + 1) := nI_add _ 1
  obtain ⟨σ', τ', g1, g2, g3⟩ := Rel_reset (N := N) (M := 43) (by omega) hR
  refine lv_aload_n hx hb dL_law_258 rfl (lv_at hl 2 rfl) ?_
  refine nr_zv (As := []) (rest := []) X hst J hI1 hA1 (ap12 hap) (y := yX11_reset) (T := TX11) (N := 7) 0 (by decide) (by decide) rfl yy_X11_reset mv_methodLink_TinyCLaw_47_TinyC_reset_V ⟨Nat.le_of_ble_eq_true rfl, Nat.le_of_ble_eq_true rfl⟩ hl.1 rfl (Nat.le_of_ble_eq_true rfl) (tX11_reset (N := N) (M := 43) g1) dL_law_259 ⟨Nat.le_of_ble_eq_true rfl, Nat.le_of_ble_eq_true rfl⟩ (fun H locs J => ?_)
  refine lv_aload_n hx hb dL_law_262 rfl (lv_at hl 1 rfl) ?_
  refine nr_zv (As := []) (rest := []) X hst J.swap hI2 hA2 (ap21 hap) (y := yX12_reset) (T := TX12) (N := 88) 0 (by decide) (by decide) rfl yy_X12_reset mv_methodLink_TinyCLaw_50_TinyCModel_reset_V ⟨Nat.le_of_ble_eq_true rfl, Nat.le_of_ble_eq_true rfl⟩ hl.1 rfl (Nat.le_of_ble_eq_true rfl) (tX12_reset (N := N) g2) dL_law_263 ⟨Nat.le_of_ble_eq_true rfl, Nat.le_of_ble_eq_true rfl⟩ (fun H locs J => ?_)
  refine lv_goto hx hb dL_law_266 rfl ?_
  exact kk σ' τ' H locs (Rel_up (by omega) g3) J.swap

set_option maxHeartbeats 4000000 in
set_option maxRecDepth 100000 in
theorem lw_c7 (hC : LC p s m c D cy b L xs ad1 ad2 ts) (hN : 2 ^ 31 ≤ N) (hi : 5 + 2 * k + 2 ≤ L) (hR : Rel ln tx tc cc mc io k σ τ) (J : LJ D (fun q => s.heap.size ≤ q) s.heap (zW shC ad1 cy ln σ) (zW shR ad2 cy lnR τ) H locs) (hl : lv_has ls 4 [(3, .int (nI (5 + 2 * k))), (2, .ref (ad2 0)), (1, .ref (ad1 0)), (0, .ref b)]) (kk : ∀ (σ' τ' : zSt) (H : Heap) (locs : List Loc), Rel ln tx tc cc mc io (k + 1) σ' τ' → LJ D (fun q => s.heap.size ≤ q) s.heap (zW shC ad1 cy ln σ') (zW shR ad2 cy lnR τ') H locs → W p l e room_1 s m #[Value.ref b] below meth c H locs 100 400000 Q (F0 m 341 ls [])) : W p l e room_1 s m #[Value.ref b] below meth c H locs 100 400000 Q (F0 m 269 ls []) := by
  obtain ⟨X, hst, hX, hbl, ⟨hI1, hA1⟩, ⟨hI2, hA2⟩, hap, hL⟩ := hC
  have hx := X.1
  have hb := X.2.1
  have hbA : ¬ (fun q : Nat => s.heap.size ≤ q) b := Nat.not_le.mpr hbl
  have ei : nI (5 + 2 * k) + (1 : Int32) = nI (5 + 2 * k + 1) := nI_add _ 1
  obtain ⟨v, g1, g2⟩ := Rel_outSize (N := N) (M := 43) hR
  refine lv_aload_n hx hb dL_law_269 rfl (lv_at hl 2 rfl) ?_
  refine nr_zi (As := []) (rest := []) X hst J hI1 hA1 (ap12 hap) (y := yX11_outSize) (T := TX11) (N := 7) 0 (by decide) (by decide) rfl yy_X11_outSize mv_methodLink_TinyCLaw_51_TinyC_outSize_I ⟨Nat.le_of_ble_eq_true rfl, Nat.le_of_ble_eq_true rfl⟩ hl.1 rfl (Nat.le_of_ble_eq_true rfl) (tX11_outSize (N := N) (M := 43) g1) dL_law_270 ⟨Nat.le_of_ble_eq_true rfl, Nat.le_of_ble_eq_true rfl⟩ (fun H locs J => ?_)
  refine lv_aload_n hx hb dL_law_273 rfl (lv_at hl 1 rfl) ?_
  refine nr_zi (As := []) (rest := [.int v]) X hst J.swap hI2 hA2 (ap21 hap) (y := yX12_outSize) (T := TX12) (N := 88) 0 (by decide) (by decide) rfl yy_X12_outSize mv_methodLink_TinyCLaw_54_TinyCModel_outSize_I ⟨Nat.le_of_ble_eq_true rfl, Nat.le_of_ble_eq_true rfl⟩ hl.1 rfl (Nat.le_of_ble_eq_true rfl) (tX12_outSize (N := N) g2) dL_law_274 ⟨Nat.le_of_ble_eq_true rfl, Nat.le_of_ble_eq_true rfl⟩ (fun H locs J => ?_)
  refine lv_icmp_eq hx hb dL_law_277 rfl (fun _ => ?_) (fun h => absurd rfl h)
  exact kk σ τ H locs (Rel_up (by omega) hR) J.swap

set_option maxHeartbeats 4000000 in
set_option maxRecDepth 100000 in
theorem lw_c8 (hC : LC p s m c D cy b L xs ad1 ad2 ts) (hN : 2 ^ 31 ≤ N) (hi : 5 + 2 * k + 2 ≤ L) (hR : Rel ln tx tc cc mc io k σ τ) (J : LJ D (fun q => s.heap.size ≤ q) s.heap (zW shC ad1 cy ln σ) (zW shR ad2 cy lnR τ) H locs) (hl : lv_has ls 4 [(3, .int (nI (5 + 2 * k))), (2, .ref (ad2 0)), (1, .ref (ad1 0)), (0, .ref b)]) (kk : ∀ (σ' τ' : zSt) (H : Heap) (locs : List Loc), Rel ln tx tc cc mc io (k + 1) σ' τ' → LJ D (fun q => s.heap.size ≤ q) s.heap (zW shC ad1 cy ln σ') (zW shR ad2 cy lnR τ') H locs → W p l e room_1 s m #[Value.ref b] below meth c H locs 100 400000 Q (F0 m 341 ls [])) : W p l e room_1 s m #[Value.ref b] below meth c H locs 100 400000 Q (F0 m 282 ls []) := by
  obtain ⟨X, hst, hX, hbl, ⟨hI1, hA1⟩, ⟨hI2, hA2⟩, hap, hL⟩ := hC
  have hx := X.1
  have hb := X.2.1
  have hbA : ¬ (fun q : Nat => s.heap.size ≤ q) b := Nat.not_le.mpr hbl
  have ei : nI (5 + 2 * k) + (1 : Int32) = nI (5 + 2 * k + 1) := nI_add _ 1
  obtain ⟨v, g1, g2⟩ := Rel_out (N := N) (M := 43) (v := xs (5 + 2 * k + 1)) hR
  refine lv_aload_n hx hb dL_law_282 rfl (lv_at hl 2 rfl) ?_
  refine lv_aload_n hx hb dL_law_283 rfl (lv_at hl 3 rfl) ?_
  refine lv_iload_n hx hb dL_law_284 rfl (lv_at hl 0 rfl) ?_
  refine lv_iconst (v := (1 : Int32)) hx hb dL_law_285 (by decide) ?_
  refine lv_iadd hx hb dL_law_286 ?_
  rw [ei]
  refine va_sld hx hb hX hbl hbA J.2.2 (ix_ok (by omega) (by omega)) dL_law_287 ?_
  rw [nI_clamp (by omega)]
  refine nr_zi (As := [.int (xs (5 + 2 * k + 1))]) (rest := []) X hst J hI1 hA1 (ap12 hap) (y := yX11_out) (T := TX11) (N := 7) 0 (by decide) (by decide) rfl yy_X11_out mv_methodLink_TinyCLaw_55_TinyC_out_II ⟨Nat.le_of_ble_eq_true rfl, Nat.le_of_ble_eq_true rfl⟩ hl.1 rfl (Nat.le_of_ble_eq_true rfl) (tX11_out (N := N) (M := 43) g1) dL_law_288 ⟨Nat.le_of_ble_eq_true rfl, Nat.le_of_ble_eq_true rfl⟩ (fun H locs J => ?_)
  refine lv_aload_n hx hb dL_law_291 rfl (lv_at hl 1 rfl) ?_
  refine lv_aload_n hx hb dL_law_292 rfl (lv_at hl 3 rfl) ?_
  refine lv_iload_n hx hb dL_law_293 rfl (lv_at hl 0 rfl) ?_
  refine lv_iconst (v := (1 : Int32)) hx hb dL_law_294 (by decide) ?_
  refine lv_iadd hx hb dL_law_295 ?_
  rw [ei]
  refine va_sld hx hb hX hbl hbA J.2.2 (ix_ok (by omega) (by omega)) dL_law_296 ?_
  rw [nI_clamp (by omega)]
  refine nr_zi (As := [.int (xs (5 + 2 * k + 1))]) (rest := [.int v]) X hst J.swap hI2 hA2 (ap21 hap) (y := yX12_out) (T := TX12) (N := 88) 0 (by decide) (by decide) rfl yy_X12_out mv_methodLink_TinyCLaw_58_TinyCModel_out_II ⟨Nat.le_of_ble_eq_true rfl, Nat.le_of_ble_eq_true rfl⟩ hl.1 rfl (Nat.le_of_ble_eq_true rfl) (tX12_out (N := N) g2) dL_law_297 ⟨Nat.le_of_ble_eq_true rfl, Nat.le_of_ble_eq_true rfl⟩ (fun H locs J => ?_)
  refine lv_icmp_eq hx hb dL_law_300 rfl (fun _ => ?_) (fun h => absurd rfl h)
  exact kk σ τ H locs (Rel_up (by omega) hR) J.swap

set_option maxHeartbeats 4000000 in
set_option maxRecDepth 100000 in
theorem lw_c9 (hC : LC p s m c D cy b L xs ad1 ad2 ts) (hN : 2 ^ 31 ≤ N) (hi : 5 + 2 * k + 2 ≤ L) (hR : Rel ln tx tc cc mc io k σ τ) (J : LJ D (fun q => s.heap.size ≤ q) s.heap (zW shC ad1 cy ln σ) (zW shR ad2 cy lnR τ) H locs) (hl : lv_has ls 4 [(3, .int (nI (5 + 2 * k))), (2, .ref (ad2 0)), (1, .ref (ad1 0)), (0, .ref b)]) (kk : ∀ (σ' τ' : zSt) (H : Heap) (locs : List Loc), Rel ln tx tc cc mc io (k + 1) σ' τ' → LJ D (fun q => s.heap.size ≤ q) s.heap (zW shC ad1 cy ln σ') (zW shR ad2 cy lnR τ') H locs → W p l e room_1 s m #[Value.ref b] below meth c H locs 100 400000 Q (F0 m 341 ls [])) : W p l e room_1 s m #[Value.ref b] below meth c H locs 100 400000 Q (F0 m 305 ls []) := by
  obtain ⟨X, hst, hX, hbl, ⟨hI1, hA1⟩, ⟨hI2, hA2⟩, hap, hL⟩ := hC
  have hx := X.1
  have hb := X.2.1
  have hbA : ¬ (fun q : Nat => s.heap.size ≤ q) b := Nat.not_le.mpr hbl
  have ei : nI (5 + 2 * k) + (1 : Int32) = nI (5 + 2 * k + 1) := nI_add _ 1
  obtain ⟨v, g1, g2⟩ := Rel_codeSize (N := N) (M := 43) hR
  refine lv_aload_n hx hb dL_law_305 rfl (lv_at hl 2 rfl) ?_
  refine nr_zi (As := []) (rest := []) X hst J hI1 hA1 (ap12 hap) (y := yX11_codeSize) (T := TX11) (N := 7) 0 (by decide) (by decide) rfl yy_X11_codeSize mv_methodLink_TinyCLaw_59_TinyC_codeSize_I ⟨Nat.le_of_ble_eq_true rfl, Nat.le_of_ble_eq_true rfl⟩ hl.1 rfl (Nat.le_of_ble_eq_true rfl) (tX11_codeSize (N := N) (M := 43) g1) dL_law_306 ⟨Nat.le_of_ble_eq_true rfl, Nat.le_of_ble_eq_true rfl⟩ (fun H locs J => ?_)
  refine lv_aload_n hx hb dL_law_309 rfl (lv_at hl 1 rfl) ?_
  refine nr_zi (As := []) (rest := [.int v]) X hst J.swap hI2 hA2 (ap21 hap) (y := yX12_codeSize) (T := TX12) (N := 88) 0 (by decide) (by decide) rfl yy_X12_codeSize mv_methodLink_TinyCLaw_62_TinyCModel_codeSize_I ⟨Nat.le_of_ble_eq_true rfl, Nat.le_of_ble_eq_true rfl⟩ hl.1 rfl (Nat.le_of_ble_eq_true rfl) (tX12_codeSize (N := N) g2) dL_law_310 ⟨Nat.le_of_ble_eq_true rfl, Nat.le_of_ble_eq_true rfl⟩ (fun H locs J => ?_)
  refine lv_icmp_eq hx hb dL_law_313 rfl (fun _ => ?_) (fun h => absurd rfl h)
  exact kk σ τ H locs (Rel_up (by omega) hR) J.swap

set_option maxHeartbeats 4000000 in
set_option maxRecDepth 100000 in
theorem lw_c10 (hC : LC p s m c D cy b L xs ad1 ad2 ts) (hN : 2 ^ 31 ≤ N) (hi : 5 + 2 * k + 2 ≤ L) (hR : Rel ln tx tc cc mc io k σ τ) (J : LJ D (fun q => s.heap.size ≤ q) s.heap (zW shC ad1 cy ln σ) (zW shR ad2 cy lnR τ) H locs) (hl : lv_has ls 4 [(3, .int (nI (5 + 2 * k))), (2, .ref (ad2 0)), (1, .ref (ad1 0)), (0, .ref b)]) (kk : ∀ (σ' τ' : zSt) (H : Heap) (locs : List Loc), Rel ln tx tc cc mc io (k + 1) σ' τ' → LJ D (fun q => s.heap.size ≤ q) s.heap (zW shC ad1 cy ln σ') (zW shR ad2 cy lnR τ') H locs → W p l e room_1 s m #[Value.ref b] below meth c H locs 100 400000 Q (F0 m 341 ls [])) : W p l e room_1 s m #[Value.ref b] below meth c H locs 100 400000 Q (F0 m 318 ls []) := by
  obtain ⟨X, hst, hX, hbl, ⟨hI1, hA1⟩, ⟨hI2, hA2⟩, hap, hL⟩ := hC
  have hx := X.1
  have hb := X.2.1
  have hbA : ¬ (fun q : Nat => s.heap.size ≤ q) b := Nat.not_le.mpr hbl
  have ei : nI (5 + 2 * k) + (1 : Int32) = nI (5 + 2 * k + 1) := nI_add _ 1
  obtain ⟨v, g1, g2⟩ := Rel_codeAt (N := N) (M := 43) (v := xs (5 + 2 * k + 1)) hR
  refine lv_aload_n hx hb dL_law_318 rfl (lv_at hl 2 rfl) ?_
  refine lv_aload_n hx hb dL_law_319 rfl (lv_at hl 3 rfl) ?_
  refine lv_iload_n hx hb dL_law_320 rfl (lv_at hl 0 rfl) ?_
  refine lv_iconst (v := (1 : Int32)) hx hb dL_law_321 (by decide) ?_
  refine lv_iadd hx hb dL_law_322 ?_
  rw [ei]
  refine va_sld hx hb hX hbl hbA J.2.2 (ix_ok (by omega) (by omega)) dL_law_323 ?_
  rw [nI_clamp (by omega)]
  refine nr_zi (As := [.int (xs (5 + 2 * k + 1))]) (rest := []) X hst J hI1 hA1 (ap12 hap) (y := yX11_codeAt) (T := TX11) (N := 7) 0 (by decide) (by decide) rfl yy_X11_codeAt mv_methodLink_TinyCLaw_63_TinyC_codeAt_II ⟨Nat.le_of_ble_eq_true rfl, Nat.le_of_ble_eq_true rfl⟩ hl.1 rfl (Nat.le_of_ble_eq_true rfl) (tX11_codeAt (N := N) (M := 43) g1) dL_law_324 ⟨Nat.le_of_ble_eq_true rfl, Nat.le_of_ble_eq_true rfl⟩ (fun H locs J => ?_)
  refine lv_aload_n hx hb dL_law_327 rfl (lv_at hl 1 rfl) ?_
  refine lv_aload_n hx hb dL_law_328 rfl (lv_at hl 3 rfl) ?_
  refine lv_iload_n hx hb dL_law_329 rfl (lv_at hl 0 rfl) ?_
  refine lv_iconst (v := (1 : Int32)) hx hb dL_law_330 (by decide) ?_
  refine lv_iadd hx hb dL_law_331 ?_
  rw [ei]
  refine va_sld hx hb hX hbl hbA J.2.2 (ix_ok (by omega) (by omega)) dL_law_332 ?_
  rw [nI_clamp (by omega)]
  refine nr_zi (As := [.int (xs (5 + 2 * k + 1))]) (rest := [.int v]) X hst J.swap hI2 hA2 (ap21 hap) (y := yX12_codeAt) (T := TX12) (N := 88) 0 (by decide) (by decide) rfl yy_X12_codeAt mv_methodLink_TinyCLaw_66_TinyCModel_codeAt_II ⟨Nat.le_of_ble_eq_true rfl, Nat.le_of_ble_eq_true rfl⟩ hl.1 rfl (Nat.le_of_ble_eq_true rfl) (tX12_codeAt (N := N) g2) dL_law_333 ⟨Nat.le_of_ble_eq_true rfl, Nat.le_of_ble_eq_true rfl⟩ (fun H locs J => ?_)
  refine lv_icmp_eq hx hb dL_law_336 rfl (fun _ => ?_) (fun h => absurd rfl h)
  exact kk σ τ H locs (Rel_up (by omega) hR) J.swap

end
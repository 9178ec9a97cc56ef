/-! THE REFERENCE'S READER: an array's size -/
theorem as_PD {N : Nat} {e : Int32} {u : zSt} (h : PD e u) : fX12_arraySize N u = some (0, zsI u 0 21 e) := by
  unfold fX12_arraySize
  rw [isWellT h.1, obd_s, if_neg (by decide), if_neg (by rw [h.2.1]; decide), strayR, stS_eq h.1, stE_P h, obd_s]
theorem as_bad {n N : Nat} {e : Int32} {t : yTok} {u : zSt} (hT : rT t u) (h21 : zI u 0 21 = 0) (ht : tkO n t) (h : need 41 t = .error e) : fX12_arraySize N u = some (0, zsI u 0 21 e) := by
  obtain ⟨ee, hk1⟩ := need_ee h
  have hK := rT_K hT
  have hst : stE u = e := by rw [ee]; exact stE_T hT ht.2.2.2
  unfold fX12_arraySize
  rw [isWellT h21, obd_s, if_neg (by decide), if_neg (fun q => hk1 ((kd41 hK.1 hK.2).mp q)), strayR, stS_eq h21, hst, obd_s]
theorem as_rng {N : Nat} {t : yTok} {u : zSt} (hT : rT t u) (h21 : zI u 0 21 = 0) (hk : t.2.2.1 = 41) (h : t.2.2.2 < 1 ∨ 1000 < t.2.2.2) : fX12_arraySize N u = some (0, zsI u 0 21 (11 + 16 * nI t.2.1)) := by
  have hK := rT_K hT
  unfold fX12_arraySize
  rw [isWellT h21, obd_s, if_neg (by decide), if_pos ((kd41 hK.1 hK.2).mpr hk), hT.2.2.1]
  have hb : fX12_arraySize_b43 N u = some (0, zsI u 0 21 (11 + 16 * nI t.2.1)) := by
    unfold fX12_arraySize_b43
    rw [failsR, flS_eq h21, hT.2.1, obd_s]
  by_cases q : t.2.2.2 < 1
  · rw [if_pos ((lg_cmp_lt _ _).mpr q), hb]
  · have q2 : 1000 < t.2.2.2 := h.resolve_left q
    rw [if_neg (fun z => q ((lg_cmp_lt _ _).mp z)), if_neg (fun z => Int64.not_le.mpr q2 ((lg_cmp_le _ _).mp z)), hb]
theorem as_ok {x : Nat → Int32} {n N : Nat} {t : yTok} {u : zSt} (hN : n + 20 ≤ N) (hs : srcR x n u) (ht : tkO n t) (hT : rT t u) (h21 : zI u 0 21 = 0) (hk : t.2.2.1 = 41) (h : ¬ (t.2.2.2 < 1 ∨ 1000 < t.2.2.2)) : fX12_arraySize N u = some (t.2.2.2.toInt32, nxS x n t.1 u) := by
  have hK := rT_K hT
  unfold fX12_arraySize
  rw [isWellT h21, obd_s, if_neg (by decide), if_pos ((kd41 hK.1 hK.2).mpr hk), hT.2.2.1, if_neg (fun z => h (Or.inl ((lg_cmp_lt _ _).mp z))), if_pos ((lg_cmp_le _ _).mpr (Int64.not_lt.mp (fun q => h (Or.inr q)))), bnd_e, nx_eq hs hT.1 ht.2.1 hN, obd_s]
/-- field 37 set and set back -/
theorem PV_37 {x : Nat → Int32} {n tc : Nat} {P : yP} {tk : yTok} {c nd : Nat} {v : Int32} {τ : zSt} (h : PV x n tc P tk c nd τ) : PV x n tc P tk c nd (zsI (zsI τ 0 37 v) 0 37 (nI 0)) := by
  obtain ⟨⟨⟨s1, s2, s3⟩, g1, g3⟩, h22, t1, h1, h2, h3, h4, h5, h6, h7⟩ := h
  have hf : ∀ j, j ≠ 37 → zI (zsI (zsI τ 0 37 v) 0 37 (nI 0)) 0 j = zI τ 0 j := fun j hj => by rw [zI_I, if_neg (by omega), zI_I, if_neg (by omega)]
  refine ⟨⟨⟨(hf 16 (by omega)).trans s1, s2, s3⟩, (hf 3 (by omega)).trans g1, g3⟩, (hf 22 (by omega)).trans h22, ?_, (hf 21 (by omega)).trans h1, (hf 36 (by omega)).trans h2, by rw [zI_I, if_pos ⟨rfl, rfl⟩], (hf 38 (by omega)).trans h4, (hf 29 (by omega)).trans h5, fun g hg hk => ?_, h7⟩
  · unfold rT; rw [hf 17 (by omega), hf 18 (by omega), hf 19 (by omega)]; exact t1
  · obtain ⟨q1, q2⟩ := h6 g hg hk
    exact ⟨rep_frame _ _ _ _ (fun m hm => ⟨hm, fun a _ _ => rfl⟩) q1, q2⟩
/-- told: closing and the end do nothing more -/
theorem b113X {x : Nat → Int32} {n tc N : Nat} {w : Int64} {s f e : Int32} {tk : yTok} {g : Nat} {τ u : zSt} {res : Except Int32 (yP × yTok × Nat)} (hres : res = .error e) (he0 : e ≠ 0) (h21 : zI u 0 21 = e) (hr : rD x n 1200 u) (hw : fW τ u) (hg : g ≤ 1400) (h22 : zI u 0 22 = nI g) : wp (obd (fX12_closes N 93 u) (fun _ σ31 => fX12_declaration_b113 N w s f σ31)) (fun _ z => DQ x n tc tk τ res z) := by
  rw [closesD (by rw [h21]; exact he0), obd_s]
  have i21 : zI (zsI u 0 37 (zI u 0 37 - 1)) 0 21 = e := by rw [zI_I, if_neg (by omega)]; exact h21
  rw [b113D (by rw [i21]; exact he0), hres]
  refine wp_s ⟨fun e' h => ?_, fun P' tk' c' h => (by cases h)⟩
  cases h
  exact ⟨he0, Or.inl i21, rD_I hr (by omega), fW_I hw (by omega), g, hg, by rw [zI_I, if_neg (by omega)]; exact h22⟩

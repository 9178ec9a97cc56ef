/-! THE TEXT BY ITSELF: one turn of both loops -/
def WGo (P : yP) (m c mc io : Nat) (σ τ : zSt) : Prop := (P.2.1 ≤ mc ∧ ∃ vl lc gb n e a I Fr md, WI P m c io vl lc gb n e (a :: I) Fr σ τ ∧ okW P (a :: I) md n (Fr.map Prod.snd) ∧ (n + (I.length + 1) + P.2.1 + e ≤ mc ∨ (a.1 = 0 ∧ I = [] ∧ Fr = [] ∧ n = 0 ∧ e = 0))) ∨ (mc < P.2.1 ∧ ∃ vl lc gb, XC P.2.1 vl lc gb (0 + npF P m) 1 0 0 σ ∧ zA σ 28 0 = 3 ∧ zA σ 29 0 = nI (nst P m))
section
variable {ln : Nat → Nat} {N M mc io c m : Nat} {P : yP} {σ τ : zSt}
theorem turnW (hN : 5000 ≤ N) (E : WEN ln mc io c P m σ τ) (hT : TPr io σ τ) (h : WGo P m c mc io σ τ) : ∃ σ4 σ' τ', fX10_takeItem ln N M σ = some ((), σ4) ∧ (if zI σ4 8 14 = 0 then fX10_lookAround ln N M σ4 else some ((), σ4)) = some ((), σ') ∧ fX12_goesOn N τ = some ((), τ') ∧ fWC σ σ' ∧ fWR τ τ' ∧ TPr io σ' τ' ∧ zI σ' 8 14 = zI τ' 0 75 ∧ (zI τ' 0 75 = 0 → WGo P m c mc io σ' τ') := by
  obtain ⟨e1, e2, e3, e4, e5, e6, e7, e8, e9, e10⟩ := id E
  have hmc := e1.2.2.2.2.2.2.2.2.2.1
  rcases h with ⟨hg, vl, lc, gb, n, e, a, I, Fr, md, W, ho, hb⟩ | ⟨hg, vl, lc, gb, X, h28, h29⟩
  · have key : ∃ σ' τ', fX10_takeItem ln N M σ = some ((), σ') ∧ fX12_takesItem N (zA τ 44 I.length) (zA τ 45 I.length) (zsI τ 0 82 (nI I.length)) = some ((), τ') ∧ WO2 P m c mc io σ τ σ' τ' ∧ I.length < 4120 := by
      rcases hb with hb | ⟨h0, rfl, rfl, rfl, rfl⟩
      · obtain ⟨σ', τ', r1, r2, r3⟩ := itemW (N := N) (M := M) hN E W ho hb
        exact ⟨σ', τ', r1, r2, r3, by omega⟩
      · have hc : a.1 = 0 ∧ isF P a.2.2 ∧ npF P a.2.2 ≤ 0 ∧ okW P [] 1 (0 - npF P a.2.2 + 1) (([] : List (Nat × Nat)).map Prod.snd) := by
          rcases ho with h | h | h
          · exact ⟨h.1, h.2.2⟩
          · exact absurd h.1 (by omega)
          · obtain ⟨g, F', hF, -, -⟩ := h
            cases hF
        obtain ⟨σ', τ', r1, r2, r3⟩ := itemC (N := N) (M := M) hN E W hc (by show 0 ≤ 0 + 1; omega) (by show 0 + 0 + 0 ≤ mc; omega)
        exact ⟨σ', τ', r1, r2, r3, by show 0 < 4120; omega⟩
    obtain ⟨σ4, τ4, r1, r2, r3, hlen⟩ := key
    have fr : fWC σ σ4 ∧ fWR τ τ4 := by
      rcases r3 with r3 | r3
      · exact ⟨r3.1, r3.2.1⟩
      · exact ⟨r3.1, r3.2.1⟩
    obtain ⟨σ', τ', s1, s2, s3, s4, s5, s6, s7⟩ := chkW (N := N) (M := M) hg (WEN_f fr.1 fr.2 E) r3
    refine ⟨σ4, σ', τ', r1, s1, ?_, s3, s4, s5, s6, fun w => ?_⟩
    · have h82 := W.2.1.2.1
      rw [List.length_cons] at h82
      rw [goR (P := P) (mc := mc) (k := I.length) e5 e3 hmc hg h82 hlen, r2, obd_s]
      exact s2
    · obtain ⟨vl', lc', gb', n', e', a', I', Fr', md', x1, x2, x3⟩ := s7 w
      exact Or.inl ⟨hg, vl', lc', gb', n', e', a', I', Fr', md', x1, x2, Or.inl x3⟩
  · have hgb := e8.1.2.2.2
    have hm0 := e8.2.2.2.1
    have hms := e8.2.1 m e8.2.2.1.1 e8.2.2.1.2
    have f0 : fWC σ (zsI σ 8 11 (nI 0)) := fWC_I (by omega)
    have X0 := XC_11 0 X
    obtain ⟨cf, co⟩ := enC (N := N) (M := M) (n := 0) (f := m) hN e1 (TRc_f f0 e2) e8 e8.2.2.1 (fnR_f e2.1 (fun _ _ _ _ => rfl) (e10 m e8.2.2.1)) X0 (by omega) (by omega) (by omega) (by omega)
    have hr : fX12_goesOn N τ = some ((), zsI τ 0 75 4) := by
      unfold fX12_goesOn
      rw [e5, e3, if_neg (fun w => by rw [nI_le' (by omega) (by omega)] at w; omega), bnd_e]
    have ht : fX10_takeItem ln N M σ = fX10_enter ln N M (nI (nst P m)) (zsI σ 8 11 (nI 0)) := by
      rw [takeC (k := 0) e1 X.2.1 (by omega), h28, if_neg (by decide), if_neg (by decide), if_neg (by decide), if_pos rfl, h29]
    rw [ht, hr]
    by_cases fit : 0 + npF P m + P.2.2.2.2 m ≤ mc
    · obtain ⟨σ4, s1, s2, s3, s4, s5, s6, s7, s8, s9, s10, s11⟩ := cf fit
      have f4 := fWC_trans f0 s2
      have hla : (if zI σ4 8 14 = 0 then fX10_lookAround ln N M σ4 else some ((), σ4)) = some ((), zsI σ4 8 14 4) := by
        rw [if_pos s3.2.2.2.2.2.2.2]
        unfold fX10_lookAround
        rw [s3.1, s3.2.1, s3.2.2.2.1, (f4.1 8 0 (by omega) (by omega)).trans e6, (f4.1 8 9 (by omega) (by omega)).trans e7, nI_add, nI_add, if_neg (fun w => by rw [nI_leS (by omega) (by omega) (by omega)] at w; omega), bnd_e]
      refine ⟨σ4, zsI σ4 8 14 4, zsI τ 0 75 4, s1, hla, rfl, fWC_trans f4 (fWC_I (by omega)), fWR_I (by omega), ?_, by rw [zI_I, if_pos ⟨rfl, rfl⟩, zI_I, if_pos ⟨rfl, rfl⟩], fun w => ?_⟩
      · exact TPr_w (fun q hq => by rw [zI_I, if_neg (by omega), s10, zI_I, if_neg (by omega)]) (fun q hq => by rw [zI_I, if_neg (by omega)]) (fun a p ha => by
          rcases ha with ea | ea
          · rw [ea]; exact s2.2.2.2.1 24 p (by omega) (by omega)
          · rw [ea]; exact s11 p) (fun _ _ _ => rfl) hT
      · rw [zI_I, if_pos ⟨rfl, rfl⟩] at w; exact absurd w (by decide)
    · refine ⟨_, zsI (zsI σ 8 11 (nI 0)) 8 14 4, zsI τ 0 75 4, co (by omega), ?_, rfl, fWC_trans f0 (fWC_I (by omega)), fWR_I (by omega), ?_, by rw [zI_I, if_pos ⟨rfl, rfl⟩, zI_I, if_pos ⟨rfl, rfl⟩], fun w => ?_⟩
      · rw [if_neg (by rw [zI_I, if_pos ⟨rfl, rfl⟩]; decide)]
      · exact TPr_w (fun q hq => by rw [zI_I, if_neg (by omega), zI_I, if_neg (by omega)]) (fun q hq => by rw [zI_I, if_neg (by omega)]) (fun _ _ _ => rfl) (fun _ _ _ => rfl) hT
      · rw [zI_I, if_pos ⟨rfl, rfl⟩] at w; exact absurd w (by decide)
end

/-! THE TEXT BY ITSELF: a call, in both -/
section
variable {ln : Nat → Nat} {N M mc io c m n k fc e f gs : Nat} {P : yP} {vl lc gb : Nat → Int32} {I : List aI} {Fr : List (Nat × Nat)} {σ τ : zSt}
theorem enR {np ms : Nat} (hN : 5000 ≤ N) (hf : f < 1400) (h10 : zA τ 10 f = nI np) (h12 : zA τ 12 f = nI ms) (h : XR gs vl lc gb (n + np) k fc e τ) (hb : e + np + ms ≤ 5400) (hn : n + np ≤ 4119) (hk : k + 2 ≤ 4119) (hfc : fc < 4120) (hnp : np ≤ 8) (hms : ms ≤ 4096) : ∃ τ', fX12_enters N (nI f) τ = some ((), τ') ∧ fWR τ τ' ∧ XR gs vl (lcE lc vl e np n) gb n (k + 2) (fc + 1) (e + np + ms) τ' ∧ zA τ' 44 k = 6 ∧ zA τ' 44 (k + 1) = 8 ∧ zA τ' 45 (k + 1) = zA τ 11 f ∧ zA τ' 47 fc = nI e ∧ zA τ' 48 fc = nI f ∧ (∀ p, p < k → zA τ' 44 p = zA τ 44 p ∧ zA τ' 45 p = zA τ 45 p) ∧ (∀ p, p < fc → zA τ' 47 p = zA τ 47 p ∧ zA τ' 48 p = zA τ 48 p) ∧ (∀ q, q ≠ 79 → q ≠ 82 → q ≠ 84 → q ≠ 87 → zI τ' 0 q = zI τ 0 q) ∧ (∀ p, zA τ' 5 p = zA τ 5 p) := by
  obtain ⟨x1, x2, x3, x4, x5, x6, x7, x8⟩ := h
  unfold fX12_enters
  rw [x3, nI_clamp (by omega), if_neg (ixN (by omega) (by omega)), x4, bnd_e, zI_A, x3, nI_clamp (by omega), if_neg (ixN (by omega) (by omega)), bnd_e, zI_A, zI_A, x3, show nI fc + (1 : Int32) = nI (fc + 1) from nI_add _ 1, bnd_e, nI_clamp (by omega), if_neg (ixN (by omega) (by omega)), show zI (zsI (zsA (zsA τ 47 fc (nI e)) 48 fc (nI f)) 0 87 (nI (fc + 1))) 0 79 = nI (n + np) by rw [zI_I, if_neg (by omega), zI_A, zI_A]; exact x1, show zA (zsI (zsA (zsA τ 47 fc (nI e)) 48 fc (nI f)) 0 87 (nI (fc + 1))) 10 f = nI np by rw [zA_I, zA_A, if_neg (by omega), zA_A, if_neg (by omega)]; exact h10, nI_sb, bnd_e, bnd_e]
  have u0 : ∀ q, q ≠ 79 → q ≠ 87 → zI (zsI (zsI (zsA (zsA τ 47 fc (nI e)) 48 fc (nI f)) 0 87 (nI (fc + 1))) 0 79 (nI n)) 0 q = zI τ 0 q := fun q a b => by rw [zI_I, if_neg (by omega), zI_I, if_neg (by omega), zI_A, zI_A]
  have u79 : zI (zsI (zsI (zsA (zsA τ 47 fc (nI e)) 48 fc (nI f)) 0 87 (nI (fc + 1))) 0 79 (nI n)) 0 79 = nI n := by rw [zI_I, if_pos ⟨rfl, rfl⟩]
  have u87 : zI (zsI (zsI (zsA (zsA τ 47 fc (nI e)) 48 fc (nI f)) 0 87 (nI (fc + 1))) 0 79 (nI n)) 0 87 = nI (fc + 1) := by rw [zI_I, if_neg (by omega), zI_I, if_pos ⟨rfl, rfl⟩]
  have uA : ∀ a p, ¬ ((a = 47 ∨ a = 48) ∧ p = fc) → zA (zsI (zsI (zsA (zsA τ 47 fc (nI e)) 48 fc (nI f)) 0 87 (nI (fc + 1))) 0 79 (nI n)) a p = zA τ a p := fun a p hp => by rw [zA_I, zA_I, zA_A, if_neg (by omega), zA_A, if_neg (by omega)]
  have u47 : zA (zsI (zsI (zsA (zsA τ 47 fc (nI e)) 48 fc (nI f)) 0 87 (nI (fc + 1))) 0 79 (nI n)) 47 fc = nI e := by rw [zA_I, zA_I, zA_A, if_neg (by omega), zA_A, if_pos ⟨rfl, rfl⟩]
  have u48 : zA (zsI (zsI (zsA (zsA τ 47 fc (nI e)) 48 fc (nI f)) 0 87 (nI (fc + 1))) 0 79 (nI n)) 48 fc = nI f := by rw [zA_I, zA_I, zA_A, if_pos ⟨rfl, rfl⟩]
  have uB : ∀ a p, zB (zsI (zsI (zsA (zsA τ 47 fc (nI e)) 48 fc (nI f)) 0 87 (nI (fc + 1))) 0 79 (nI n)) a p = zB τ a p := fun _ _ => rfl
  revert u0 u79 u87 uA u47 u48 uB
  generalize zsI (zsI (zsA (zsA τ 47 fc (nI e)) 48 fc (nI f)) 0 87 (nI (fc + 1))) 0 79 (nI n) = u
  intro u0 u79 u87 uA u47 u48 uB
  obtain ⟨z, z1, z2, z3, z4, z5⟩ := en50 (N := N) (n := n) (e := e) (vl := vl) hf (by omega) hn np 0 N u ((uA _ _ (by omega)).trans h10) ((u0 _ (by omega) (by omega)).trans x4) u79 (fun i hi => (uA _ _ (by omega)).trans (x5 i hi)) (by omega) (by omega)
  have zI' : ∀ o q, zI z o q = zI u o q := fun o q => by unfold zI; rw [z2]
  obtain ⟨y, y1, y2, y3, y4, y5⟩ := en90 (N := N) (τ := z) (e := e) (k := k) (np := np) (ms := ms) hf ((z4 _ _ (by omega)).trans ((uA _ _ (by omega)).trans h10)) ((z4 _ _ (by omega)).trans ((uA _ _ (by omega)).trans h12)) hb hk ms 0 N z ((z4 _ _ (by omega)).trans ((uA _ _ (by omega)).trans h10)) ((z4 _ _ (by omega)).trans ((uA _ _ (by omega)).trans h12)) ((zI' _ _).trans ((u0 _ (by omega) (by omega)).trans x4)) ((zI' _ _).trans ((u0 _ (by omega) (by omega)).trans x2)) (by omega) (by omega)
  have yI : ∀ o q, zI y o q = zI u o q := fun o q => by unfold zI; rw [y2, z2]
  have yA : ∀ a p, a ≠ 46 → zA y a p = zA u a p := fun a p ha => (y4 a p ha).trans (z4 a p ha)
  have e11 : zA z 11 f = zA τ 11 f := (z4 _ _ (by omega)).trans (uA _ _ (by omega))
  rw [show (0 : Int32) = nI 0 from rfl, z1, show (0 : Int32) = nI 0 from rfl, y1, e11]
  refine ⟨_, rfl, ⟨fun q c1 c2 c3 c4 c5 c6 c7 => ?_, fun a p c1 c2 => ?_, fun a p => ?_⟩, ⟨?_, ?_, ?_, ?_, fun i hi => ?_, fun i hi => ?_, fun i hi => ?_, ?_⟩, ?_, ?_, ?_, ?_, ?_, fun p hp => ⟨?_, ?_⟩, fun p hp => ⟨?_, ?_⟩, fun q c1 c2 c3 c4 => ?_, fun p => ?_⟩
  · rw [zI_I, if_neg (by omega), zI_A, zI_A, zI_I, if_neg (by omega), zI_A, zI_A, zI_I, if_neg (by omega), yI]; exact u0 q (by omega) (by omega)
  · rw [zA_I, zA_A, if_neg (by omega), zA_A, if_neg (by omega), zA_I, zA_A, if_neg (by omega), zA_A, if_neg (by omega), zA_I, yA a p (by omega)]; exact uA a p (by omega)
  · show zB y a p = _; unfold zB; rw [y3, z3]; exact uB a p
  · rw [zI_I, if_neg (by omega), zI_A, zI_A, zI_I, if_neg (by omega), zI_A, zI_A, zI_I, if_neg (by omega), yI]; exact u79
  · rw [zI_I, if_pos ⟨rfl, rfl⟩]
  · rw [zI_I, if_neg (by omega), zI_A, zI_A, zI_I, if_neg (by omega), zI_A, zI_A, zI_I, if_neg (by omega), yI]; exact u87
  · rw [zI_I, if_neg (by omega), zI_A, zI_A, zI_I, if_neg (by omega), zI_A, zI_A, zI_I, if_pos ⟨rfl, rfl⟩]; congr 1; omega
  · rw [zA_I, zA_A, if_neg (by omega), zA_A, if_neg (by omega), zA_I, zA_A, if_neg (by omega), zA_A, if_neg (by omega), zA_I, yA _ _ (by omega), uA _ _ (by omega)]; exact x5 i (by omega)
  · rw [zA_I, zA_A, if_neg (by omega), zA_A, if_neg (by omega), zA_I, zA_A, if_neg (by omega), zA_A, if_neg (by omega), zA_I, y5 i, z5 i]
    unfold lcE
    by_cases c1 : i < e
    · rw [if_neg (by omega), if_neg (by omega), if_pos c1, uA _ _ (by omega)]; exact x6 i c1
    · rw [if_neg c1]
      by_cases c2 : i < e + np
      · rw [if_neg (by omega), if_pos (by omega), if_pos c2]
      · rw [if_pos (by omega), if_neg c2]
  · rw [zA_I, zA_A, if_neg (by omega), zA_A, if_neg (by omega), zA_I, zA_A, if_neg (by omega), zA_A, if_neg (by omega), zA_I, yA _ _ (by omega), uA _ _ (by omega)]; exact x7 i hi
  · rw [zI_I, if_neg (by omega), zI_A, zI_A, zI_I, if_neg (by omega), zI_A, zI_A, zI_I, if_neg (by omega), yI]; exact (u0 _ (by omega) (by omega)).trans x8
  · rw [zA_I, zA_A, if_neg (by omega), zA_A, if_neg (by omega), zA_I, zA_A, if_neg (by omega), zA_A, if_pos ⟨rfl, rfl⟩]
  · rw [zA_I, zA_A, if_neg (by omega), zA_A, if_pos ⟨rfl, rfl⟩]
  · rw [zA_I, zA_A, if_pos ⟨rfl, rfl⟩]
  · rw [zA_I, zA_A, if_neg (by omega), zA_A, if_neg (by omega), zA_I, zA_A, if_neg (by omega), zA_A, if_neg (by omega), zA_I, yA _ _ (by omega)]; exact u47
  · rw [zA_I, zA_A, if_neg (by omega), zA_A, if_neg (by omega), zA_I, zA_A, if_neg (by omega), zA_A, if_neg (by omega), zA_I, yA _ _ (by omega)]; exact u48
  · rw [zA_I, zA_A, if_neg (by omega), zA_A, if_neg (by omega), zA_I, zA_A, if_neg (by omega), zA_A, if_neg (by omega), zA_I, yA _ _ (by omega)]; exact uA _ _ (by omega)
  · rw [zA_I, zA_A, if_neg (by omega), zA_A, if_neg (by omega), zA_I, zA_A, if_neg (by omega), zA_A, if_neg (by omega), zA_I, yA _ _ (by omega)]; exact uA _ _ (by omega)
  · rw [zA_I, zA_A, if_neg (by omega), zA_A, if_neg (by omega), zA_I, zA_A, if_neg (by omega), zA_A, if_neg (by omega), zA_I, yA _ _ (by omega)]; exact uA _ _ (by omega)
  · rw [zA_I, zA_A, if_neg (by omega), zA_A, if_neg (by omega), zA_I, zA_A, if_neg (by omega), zA_A, if_neg (by omega), zA_I, yA _ _ (by omega)]; exact uA _ _ (by omega)
  · rw [zI_I, if_neg (by omega), zI_A, zI_A, zI_I, if_neg (by omega), zI_A, zI_A, zI_I, if_neg (by omega), yI]; exact u0 q (by omega) (by omega)
  · rw [zA_I, zA_A, if_neg (by omega), zA_A, if_neg (by omega), zA_I, zA_A, if_neg (by omega), zA_A, if_neg (by omega), zA_I, yA _ _ (by omega)]; exact uA _ _ (by omega)
/-- a call: both enter, or the class has no room where the reference will find that there is none -/
theorem t0 (hN : 5000 ≤ N) (E : WEN ln mc io c P m σ τ) (W : WI P m c io vl lc gb (n + npF P f) e I Fr σ τ) (hf : isF P f) (hb : n + npF P f + I.length + e ≤ mc) (hl2 : Fr.length ≤ I.length + 1) (hk : okW P I 1 (n + 1) (Fr.map Prod.snd)) : ∃ σ' τ', fX10_enter ln N M (nI (nst P f)) σ = some ((), σ') ∧ fX12_enters N (nI f) τ = some ((), τ') ∧ (WO P m c mc io σ τ σ' τ' ∨ (fWC σ σ' ∧ fWR τ τ' ∧ TPr io σ' τ' ∧ zI σ' 8 14 = 4 ∧ zI τ' 0 75 = 0 ∧ ∃ n' k' e', zI τ' 0 79 = nI n' ∧ zI τ' 0 82 = nI k' ∧ zI τ' 0 84 = nI e' ∧ mc < n' + k' + P.2.1 + e' ∧ n' + k' + P.2.1 + e' < 1000000)) := by
  obtain ⟨e1, e2, e3, e4, e5, e6, e7, e8, e9, e10⟩ := id E
  have hc9 := e2.1
  have hmc := e1.2.2.2.2.2.2.2.2.2.1
  obtain ⟨w1, w2, w3, w4, w5, w6⟩ := W
  obtain ⟨k1, k2, k3, k4⟩ := e8.1.1 f hf
  have hms := e8.2.1 f hf.1 hf.2
  have hn5 := e8.2.2.2.2.2
  have hfl := hf.1
  have hgb := e8.1.2.2.2
  obtain ⟨cf, co⟩ := enC (N := N) (M := M) (n := n) (f := f) hN e1 e2 e8 hf (e10 f hf) w1 (by omega) (by omega) (by omega) (by omega)
  obtain ⟨τ', r1, r2, r3, r4, r5, r6, r7, r8, r9, r10, r11, r12⟩ := enR (N := N) (n := n) (f := f) (np := npF P f) (ms := P.2.2.2.2 f) hN (by omega) ((e9.2.1 f hf.1).2.2.trans k3) (e9.2.2 f hf.1 hf.2).2 w2 (by omega) (by omega) (by omega) (by omega) k2 (by omega)
  by_cases fit : e + npF P f + P.2.2.2.2 f ≤ mc
  · obtain ⟨σ', s1, s2, s3, s4, s5, s6, s7, s8, s9, s10, s11⟩ := cf fit
    refine ⟨σ', τ', s1, r1, Or.inl (WO_ok s2 r2 (vl' := vl) (lc' := lcE lc vl e (npF P f) n) (gb' := gb) (n' := n) (e' := e + npF P f + P.2.2.2.2 f) (I' := (3, fZ, f) :: (7, fZ, f) :: I) (Fr' := (e, f) :: Fr) (md := 0) ⟨s3, r3, ⟨?_, ?_, ?_⟩, ⟨hf, by omega, r7, r8, s7, frR_f Fr e (fun p hp => ⟨(r10 p hp).1, (r10 p hp).2, s9 p hp⟩) w4⟩, ?_, ?_⟩ ?_ (by omega) (by rw [List.length_cons, List.length_cons]; omega) (by omega))⟩
    · unfold slI
      rw [if_neg (show ¬ (3 : Nat) = 0 by decide), if_pos rfl]
      exact ⟨r5, by rw [r2.2.1 11 f (by omega) (by omega)]; exact r6, s5, s6⟩
    · rw [if_neg (show ¬ (3 : Nat) = 7 by decide)]
      unfold slI
      rw [if_neg (show ¬ (7 : Nat) = 0 by decide), if_neg (show ¬ (7 : Nat) = 3 by decide), if_neg (show ¬ (7 : Nat) = 6 by decide), if_pos rfl]
      exact ⟨r4, s4⟩
    · rw [if_neg (show ¬ (3 : Nat) = 7 by decide), if_pos (show ((7, fZ, f) : aI).1 = 7 from rfl)]
      exact itR_f hc9 (fW_tr s2 r2) I _ (fun p hp => ⟨(s8 p hp).1, (s8 p hp).2, (r9 p hp).1, (r9 p hp).2⟩) w3
    · exact TPr_w (fun q _ => s10 q) (fun q hq => r11 q (by omega) (by omega) (by omega) (by omega)) (fun a p ha => by
        rcases ha with ea | ea
        · rw [ea]; exact s2.2.2.2.1 24 p (by omega) (by omega)
        · rw [ea]; exact s11 p) (fun a p ha => by
        rcases ha with ea | ea
        · rw [ea]; exact r2.2.1 4 p (by omega) (by omega)
        · rw [ea]; exact r12 p) w5
    · exact TAt_w (fun q _ => s10 q) (r11 12 (by omega) (by omega) (by omega) (by omega)) w6
    · exact Or.inr (Or.inr ⟨f, _, rfl, hf, Or.inr (Or.inr (Or.inr (Or.inr (Or.inr (Or.inr (Or.inr (Or.inl ⟨rfl, rfl, rfl, Or.inr (Or.inl ⟨rfl, rfl, _, rfl, hk⟩)⟩)))))))⟩)
  · refine ⟨_, τ', co (by omega), r1, Or.inr ⟨fWC_I (by omega), r2, ?_, by rw [zI_I, if_pos ⟨rfl, rfl⟩], r3.2.2.2.2.2.2.2, n, I.length + 2, e + npF P f + P.2.2.2.2 f, r3.1, r3.2.1, r3.2.2.2.1, by omega, by omega⟩⟩
    exact TPr_w (fun q hq => by rw [zI_I, if_neg (by omega)]) (fun q hq => r11 q (by omega) (by omega) (by omega) (by omega)) (fun _ _ _ => rfl) (fun a p ha => by
      rcases ha with ea | ea
      · rw [ea]; exact r2.2.1 4 p (by omega) (by omega)
      · rw [ea]; exact r12 p) w5
end

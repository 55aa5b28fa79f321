/-! the class reads the whole text: from its beginning -/
section
variable {E : jE} {μ μ1 : jMu} {Q : Int → jMu → Prop} {Q0 : jMu → Prop} {n h e : Int} {t : Int → Int} {b : Nat}
theorem sBk_clear (hb : isB b) (k : ∀ μ1, Fr (fun i _ => i = b ∨ i = b + 1) μ μ1 → BKp b μ1 P00 → Q0 μ1) : Cv E mBk_clear [jvR ((b : Nat) : Int)] μ Q0 := by
  have hB7 := isB_7 hb
  refine vBk_clear_0 hb (vTe_clear_0 hb ⟨rfl, rfl, ?_⟩)
  generalize hμ : j_up (j_up (j_up (j_up (j_up (j_up (j_up μ (b + 1) 6 0) (b + 1) 7 0) (b + 1) 8 0) b 12 0) b 13 0) b 14 0) b 15 (-1) = μ2
  have f1 : Fr (fun i _ => i = b ∨ i = b + 1) μ μ2 := by
    rw [← hμ]
    exact ((((((Fr.up (Or.inr rfl)).put (Or.inr rfl)).put (Or.inr rfl)).put (Or.inl rfl)).put (Or.inl rfl)).put (Or.inl rfl)).put (Or.inl rfl)
  have z0 : ∀ k, k ≠ 5 → P00 0 k = 0 := fun k hk => by unfold P00; rw [if_neg (fun hh => hk hh.2)]
  have e0 : nR P00 = 0 := z0 0 (by decide)
  have e1 : nD P00 = 0 := z0 1 (by decide)
  have e2 : nG P00 = 0 := z0 2 (by decide)
  have e3 : nH P00 = 0 := z0 3 (by decide)
  have e4 : nS P00 = 0 := z0 4 (by decide)
  have e6 : nC P00 = 0 := z0 6 (by decide)
  refine k μ2 f1 ⟨⟨⟨?_, ?_, ?_⟩, fun g a c => by omega, fun g a c => by omega, fun g a c => by omega⟩, ⟨?_, ?_, ?_⟩, fun g a c => by omega, fun r k a c => by omega, fun g a c => by omega, fun r k a c => by omega, fun g a c => by omega, fun g a c => by omega, fun g a c => by omega⟩
  · rw [← hμ, up_ne (by omega), up_ne (by omega), up_ne (by omega), up_ne (by omega), up_nk (by decide), up_nk (by decide), up_eq, e2]
  · rw [← hμ, up_ne (by omega), up_ne (by omega), up_ne (by omega), up_ne (by omega), up_nk (by decide), up_eq, e3]
  · rw [← hμ, up_ne (by omega), up_ne (by omega), up_ne (by omega), up_ne (by omega), up_eq, e6]
  · rw [← hμ, up_nk (by decide), up_nk (by decide), up_nk (by decide), up_eq, e0]
  · rw [← hμ, up_nk (by decide), up_nk (by decide), up_eq, e4]
  · rw [← hμ, up_nk (by decide), up_eq, e1]
theorem sPa_parse (hb : isB b) (hT : TC μ n t) (kf : ∀ g, aPar n t = .error g → ∀ μ1, Fr (Wpa b) μ μ1 → Flt μ1 g → Q (-1) μ1) (kt : ∀ k' P', aPar n t = .ok (k', P') → 0 ≤ k' → ∀ μ1, Fr (Wpa b) μ μ1 → CB b μ1 (goalP P') → Flt μ1 (0, -1) → Q k' μ1) : Ci E mPa_parse [jvR 3, jvR 1, jvR ((b : Nat) : Int)] μ Q := by
  have hB7 := isB_7 hb
  refine vPa_parse_0 hb (sBk_clear hb (fun μ1 f1 B1 => ?_))
  have f0 : Fr (Wpa b) μ (j_up (j_up μ 3 4 1) 3 5 b) := (Fr.up (Or.inr (Or.inl (by omega)))).put (Or.inr (Or.inl (by omega)))
  have f1' : Fr (Wpa b) μ μ1 := f0.tr (f1.mono (fun i k hh => Or.inr (Or.inr (by omega))))
  have e34 : μ1 3 4 = 1 := by rw [f1 3 4 (by omega), up_nk (by decide), up_eq]
  have e35 : μ1 3 5 = ((b : Nat) : Int) := by rw [f1 3 5 (by omega), up_eq]
  refine ⟨e34, vTa_rewind_0 ?_⟩
  generalize hμ : j_up (j_up (j_up (j_up (j_up (j_up μ1 3 6 (-1)) 3 8 0) 3 9 (-1)) 1 2 0) 1 3 0) 1 4 0 = μ2
  have f2 : Fr (fun i k => (i = 3 ∧ 6 ≤ k) ∨ (i = 1 ∧ 2 ≤ k)) μ1 μ2 := by
    rw [← hμ]
    exact (((((Fr.up (Or.inl (by omega))).put (Or.inl (by omega))).put (Or.inl (by omega))).put (Or.inr (by omega))).put (Or.inr (by omega))).put (Or.inr (by omega))
  have f2' : Fr (Wpa b) μ μ2 := f1'.tr (f2.mono (fun i k hh => by unfold Wpa; omega))
  have T2 : TC μ2 n t := hT.fr (f2'.mono (fun i k hh => by unfold Wpa at hh; omega))
  have v2 : μ2 1 2 = 0 := by rw [← hμ, up_nk (by decide), up_nk (by decide), up_eq]
  have v3 : μ2 1 3 = 0 := by rw [← hμ, up_nk (by decide), up_eq]
  have v4 : μ2 1 4 = 0 := by rw [← hμ, up_eq]
  have v8 : μ2 3 8 = 0 := by rw [← hμ, up_ne (by decide), up_ne (by decide), up_ne (by decide), up_nk (by decide), up_eq]
  have v9 : μ2 3 9 = -1 := by rw [← hμ, up_ne (by decide), up_ne (by decide), up_ne (by decide), up_eq]
  have v6 : μ2 3 6 = -1 := by rw [← hμ, up_ne (by decide), up_ne (by decide), up_ne (by decide), up_nk (by decide), up_nk (by decide), up_eq]
  have L2 : PL b μ2 := ⟨by rw [f2 3 4 (by omega)]; exact e34, by rw [f2 3 5 (by omega)]; exact e35⟩
  have B2 : BKp b μ2 P00 := by
    have T : TCl b μ2 P00 := B1.1.fr (f2.mono (fun i k hh => by omega))
    refine ⟨T, ?_⟩
    obtain ⟨_, ⟨c1, c2, c3⟩, r⟩ := B1
    have z0 : ∀ k, k ≠ 5 → P00 0 k = 0 := fun k hk => by unfold P00; rw [if_neg (fun hh => hk hh.2)]
    have e0 : nR P00 = 0 := z0 0 (by decide)
    have e1 : nD P00 = 0 := z0 1 (by decide)
    have e4 : nS P00 = 0 := z0 4 (by decide)
    exact ⟨⟨by rw [f2 b 12 (by omega)]; exact c1, by rw [f2 b 13 (by omega)]; exact c2, by rw [f2 b 14 (by omega)]; exact c3⟩, fun g a c => by omega, fun r k a c => by omega, fun g a c => by omega, fun r k a c => by omega, fun g a c => by omega, fun g a c => by omega, fun g a c => by omega⟩
  refine sTa_advance T2 ⟨v8, v9⟩ (p := 0) (e := -1) (by omega) (by omega) (by have := hT.2.1; omega) (by omega) (fun hh => by omega) (fun hh => by omega) (fun μ3 f3 x3 => ⟨rfl, ?_⟩)
  have f3' : Fr (Wpa b) μ μ3 := f2'.tr (f3.mono (fun i k hh => Or.inl hh))
  exact sPa_parseL hb 80 0 _ _ P00 μ3 (by omega) (by omega) x3 (L2.fr (f3.mono (fun i k hh => by unfold WTk at hh; omega))) (B2.tk hb WP_00 (f3.mono WTk.t3)) WP_00 (by rw [f3 3 6 (by unfold WTk; omega), v6]; rfl) (fun g hg μ4 f4 l4 => kf g hg μ4 (f3'.tr f4) l4) (fun k' P' hok h0 μ4 f4 C4 l4 => kt k' P' hok h0 μ4 (f3'.tr f4) C4 l4)
end

def jmu0 : jMu := fun i k => match jCt[i]? with
  | some (.inl (ty, _)) => j_dv ty
  | some (.inr ci) => j_dv (jty ci k.toNat)
  | none => 0
theorem law_J (E : jE) (hL : E.2.2.1 ≤ 3072) : J E mLaw 0 121 0 0 (j_ent 4 [jvR (-2)]) [] jmu0 (fun v _ => v = some (jvI 1)) := by
  sorry

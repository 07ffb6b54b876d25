section CRD
variable {bs : Nat} {sa : Nat → Nat}
theorem c_isOfType (d B P : Nat) (hP : P ≤ 40) (F : Nat → Nat → Int32) (H : e_H) (hR : cR B P F H) (p t : Int32) :
    ev_run tbs bs sa (d + 2) 54 [.ref B, .int p, .int t] H (some (.int (iso P (F 0) p t))) H := by
  obtain ⟨⟨fs, hB⟩, hA, hp⟩ := hR
  refine RUN.mk (T := t_X4_isOfType) rfl (Nat.le_of_ble_eq_true rfl) ?_
  repeat refine EV.s rfl rfl rfl ?_
  refine EV.get rfl hB rfl ?_
  refine EV.alen rfl (by simp [ev_len, hA]) ?_
  refine EV.call rfl (r_isWithin _ _ _ _) ?_
  sorry
end CRD

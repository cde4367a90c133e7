/-! EXCHANGE, BEHIND -/
section
variable {X : List Int} {h : zHP} {K : Option zAV → zHP → Prop}
/-- exchanged, where the table is ready -/
theorem cx_86 {n o k : Nat} (F : zFin h) (T : zOT h) (hn : 2 ≤ n) (hr : (n : Int) ≤ h 1 1) (hk : k + 2 ≤ n) (ho : o < zfac n) (q : K (some (zI (zsj (n - 2 - k) o : Int))) h) : zC X 86 [zR 1, zI n, zI o, zI k] h K := by
  obtain ⟨r, e0, hr0, hr7, T⟩ := T
  have hn7 : n ≤ r := by omega
  have h5 : zfac n ≤ 5040 := zfac7 (by omega)
  have e1 : ((((k : Int) + 7 - n) * 5040) + o).toNat = (5 - (n - 2 - k)) * 5040 + o := by omega
  refine sg_86_0 F (fun a => by omega) (fun a b => by omega) (fun _ _ a => by omega) (fun _ _ _ => by omega) (fun _ _ _ a => by omega) (fun _ _ _ _ a => by omega) (fun _ _ _ _ _ _ => by omega) (fun _ _ _ _ _ _ => by omega) (fun _ _ _ _ _ _ => by omega) (fun _ _ _ _ _ _ => by omega) (fun _ _ _ _ _ _ => by omega) (fun _ _ _ _ _ _ => ⟨rfl, ?_⟩) (fun _ _ _ _ _ a => by omega)
  rw [e1, T _ _ (by omega) (Nat.lt_of_lt_of_le ho (zfac_mono hn7))]
  exact q
end

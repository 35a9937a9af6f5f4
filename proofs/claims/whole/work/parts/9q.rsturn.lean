/-! turn -/
theorem RS_turn {P : Pg} {σ D : Int → Int} {root price : Int} {S : Sr} {U : Tr} {b t x : Int} (h : RS P σ root price D S U b t) : RS P σ root price D (uC S 8 x) (oS U 1 x) b t := by
  obtain ⟨⟨b1, b2, b3, b4, b5, b6, b7, b8, b9, b10, b11, b12, b13, b14, b15⟩, ⟨n0, n1, n4, n5, n6, n7, n8, n9, n10, n11, n12, n13, n15, nb, na⟩, hr, hRP, hW⟩ := h
  obtain ⟨s1, s2, s3, s4, s5, s6, s7, s8, s9, s10, s11⟩ := b1
  exact ⟨⟨⟨s1, s2, s3, s4, s5, s6, s7, s8, s9, s10, s11⟩, b2, b3, b4, b5, b6, b7, b8, b9, b10, b11, b12, b13, b14, b15⟩, ⟨n0, rfl, n4, n5, n6, n7, n8, n9, n10, n11, n12, n13, n15, nb, na⟩, hr, hRP, hW⟩

/-! the words of throwing stand in the tables -/
theorem xg130 : ∀ w ∈ (vx_atS RX11 130 eIA exN).filter goodWord, w ∈ lw_tbl := by decide +kernel
theorem xg140 : ∀ w ∈ (vx_atS RX11 140 eUO exN).filter goodWord, w ∈ lw_tbl := by decide +kernel
theorem xg236 : ∀ w ∈ (vx_atS RX11 236 eIO exN).filter goodWord, w ∈ lw_tbl := by decide +kernel
theorem xg245 : ∀ w ∈ (vx_atS RX11 245 eIS exN).filter goodWord, w ∈ lw_tbl := by decide +kernel

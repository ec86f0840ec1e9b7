def vc_X11_buyer (σ : zMem) (a0 : Int32) (a1 : Int32) (a2 : Int32) (Q : Int32 → zMem → Prop) : Prop := vc_X11_in σ a0 0 50 (fun r2 σ1 => ((r2 = 0) → Q ((-1)) σ1) ∧ ((¬ r2 = 0) → vc_X11_in σ1 a1 0 100000 (fun r5 σ4 => ((r5 = 0) → Q ((-1)) σ4) ∧ ((¬ r5 = 0) → vc_X11_isPlot σ4 a2 (fun r8 σ7 => ((¬ r8 = 0) → ((¬ (σ7 22 0 9) = 10) → vp_in (σ7 22 0 9) 10 ∧ vp_in ((um σ7 31 0 (σ7 22 0 9).toNatClampNeg a0) 22 0 9) 10 ∧ vp_in ((um (um σ7 31 0 (σ7 22 0 9).toNatClampNeg a0) 32 0 ((um σ7 31 0 (σ7 22 0 9).toNatClampNeg a0) 22 0 9).toNatClampNeg a1) 22 0 9) 10 ∧ vp_in ((um (um (um σ7 31 0 (σ7 22 0 9).toNatClampNeg a0) 32 0 ((um σ7 31 0 (σ7 22 0 9).toNatClampNeg a0) 22 0 9).toNatClampNeg a1) 33 0 ((um (um σ7 31 0 (σ7 22 0 9).toNatClampNeg a0) 32 0 ((um σ7 31 0 (σ7 22 0 9).toNatClampNeg a0) 22 0 9).toNatClampNeg a1) 22 0 9).toNatClampNeg a2) 22 0 9) 10 ∧ vp_in ((um (um (um (um σ7 31 0 (σ7 22 0 9).toNatClampNeg a0) 32 0 ((um σ7 31 0 (σ7 22 0 9).toNatClampNeg a0) 22 0 9).toNatClampNeg a1) 33 0 ((um (um σ7 31 0 (σ7 22 0 9).toNatClampNeg a0) 32 0 ((um σ7 31 0 (σ7 22 0 9).toNatClampNeg a0) 22 0 9).toNatClampNeg a1) 22 0 9).toNatClampNeg a2) 34 0 ((um (um (um σ7 31 0 (σ7 22 0 9).toNatClampNeg a0) 32 0 ((um σ7 31 0 (σ7 22 0 9).toNatClampNeg a0) 22 0 9).toNatClampNeg a1) 33 0 ((um (um σ7 31 0 (σ7 22 0 9).toNatClampNeg a0) 32 0 ((um σ7 31 0 (σ7 22 0 9).toNatClampNeg a0) 22 0 9).toNatClampNeg a1) 22 0 9).toNatClampNeg a2) 22 0 9).toNatClampNeg (vp_nar .boolean 0)) 22 0 9) 10 ∧ vp_in ((um (um (um (um (um σ7 31 0 (σ7 22 0 9).toNatClampNeg a0) 32 0 ((um σ7 31 0 (σ7 22 0 9).toNatClampNeg a0) 22 0 9).toNatClampNeg a1) 33 0 ((um (um σ7 31 0 (σ7 22 0 9).toNatClampNeg a0) 32 0 ((um σ7 31 0 (σ7 22 0 9).toNatClampNeg a0) 22 0 9).toNatClampNeg a1) 22 0 9).toNatClampNeg a2) 34 0 ((um (um (um σ7 31 0 (σ7 22 0 9).toNatClampNeg a0) 32 0 ((um σ7 31 0 (σ7 22 0 9).toNatClampNeg a0) 22 0 9).toNatClampNeg a1) 33 0 ((um (um σ7 31 0 (σ7 22 0 9).toNatClampNeg a0) 32 0 ((um σ7 31 0 (σ7 22 0 9).toNatClampNeg a0) 22 0 9).toNatClampNeg a1) 22 0 9).toNatClampNeg a2) 22 0 9).toNatClampNeg (vp_nar .boolean 0)) 35 0 ((um (um (um (um σ7 31 0 (σ7 22 0 9).toNatClampNeg a0) 32 0 ((um σ7 31 0 (σ7 22 0 9).toNatClampNeg a0) 22 0 9).toNatClampNeg a1) 33 0 ((um (um σ7 31 0 (σ7 22 0 9).toNatClampNeg a0) 32 0 ((um σ7 31 0 (σ7 22 0 9).toNatClampNeg a0) 22 0 9).toNatClampNeg a1) 22 0 9).toNatClampNeg a2) 34 0 ((um (um (um σ7 31 0 (σ7 22 0 9).toNatClampNeg a0) 32 0 ((um σ7 31 0 (σ7 22 0 9).toNatClampNeg a0) 22 0 9).toNatClampNeg a1) 33 0 ((um (um σ7 31 0 (σ7 22 0 9).toNatClampNeg a0) 32 0 ((um σ7 31 0 (σ7 22 0 9).toNatClampNeg a0) 22 0 9).toNatClampNeg a1) 22 0 9).toNatClampNeg a2) 22 0 9).toNatClampNeg (vp_nar .boolean 0)) 22 0 9).toNatClampNeg ((-2))) 22 0 9) 10 ∧ Q (((um (um (um (um (um (um (um σ7 31 0 (σ7 22 0 9).toNatClampNeg a0) 32 0 ((um σ7 31 0 (σ7 22 0 9).toNatClampNeg a0) 22 0 9).toNatClampNeg a1) 33 0 ((um (um σ7 31 0 (σ7 22 0 9).toNatClampNeg a0) 32 0 ((um σ7 31 0 (σ7 22 0 9).toNatClampNeg a0) 22 0 9).toNatClampNeg a1) 22 0 9).toNatClampNeg a2) 34 0 ((um (um (um σ7 31 0 (σ7 22 0 9).toNatClampNeg a0) 32 0 ((um σ7 31 0 (σ7 22 0 9).toNatClampNeg a0) 22 0 9).toNatClampNeg a1) 33 0 ((um (um σ7 31 0 (σ7 22 0 9).toNatClampNeg a0) 32 0 ((um σ7 31 0 (σ7 22 0 9).toNatClampNeg a0) 22 0 9).toNatClampNeg a1) 22 0 9).toNatClampNeg a2) 22 0 9).toNatClampNeg (vp_nar .boolean 0)) 35 0 ((um (um (um (um σ7 31 0 (σ7 22 0 9).toNatClampNeg a0) 32 0 ((um σ7 31 0 (σ7 22 0 9).toNatClampNeg a0) 22 0 9).toNatClampNeg a1) 33 0 ((um (um σ7 31 0 (σ7 22 0 9).toNatClampNeg a0) 32 0 ((um σ7 31 0 (σ7 22 0 9).toNatClampNeg a0) 22 0 9).toNatClampNeg a1) 22 0 9).toNatClampNeg a2) 34 0 ((um (um (um σ7 31 0 (σ7 22 0 9).toNatClampNeg a0) 32 0 ((um σ7 31 0 (σ7 22 0 9).toNatClampNeg a0) 22 0 9).toNatClampNeg a1) 33 0 ((um (um σ7 31 0 (σ7 22 0 9).toNatClampNeg a0) 32 0 ((um σ7 31 0 (σ7 22 0 9).toNatClampNeg a0) 22 0 9).toNatClampNeg a1) 22 0 9).toNatClampNeg a2) 22 0 9).toNatClampNeg (vp_nar .boolean 0)) 22 0 9).toNatClampNeg ((-2))) 36 0 ((um (um (um (um (um σ7 31 0 (σ7 22 0 9).toNatClampNeg a0) 32 0 ((um σ7 31 0 (σ7 22 0 9).toNatClampNeg a0) 22 0 9).toNatClampNeg a1) 33 0 ((um (um σ7 31 0 (σ7 22 0 9).toNatClampNeg a0) 32 0 ((um σ7 31 0 (σ7 22 0 9).toNatClampNeg a0) 22 0 9).toNatClampNeg a1) 22 0 9).toNatClampNeg a2) 34 0 ((um (um (um σ7 31 0 (σ7 22 0 9).toNatClampNeg a0) 32 0 ((um σ7 31 0 (σ7 22 0 9).toNatClampNeg a0) 22 0 9).toNatClampNeg a1) 33 0 ((um (um σ7 31 0 (σ7 22 0 9).toNatClampNeg a0) 32 0 ((um σ7 31 0 (σ7 22 0 9).toNatClampNeg a0) 22 0 9).toNatClampNeg a1) 22 0 9).toNatClampNeg a2) 22 0 9).toNatClampNeg (vp_nar .boolean 0)) 35 0 ((um (um (um (um σ7 31 0 (σ7 22 0 9).toNatClampNeg a0) 32 0 ((um σ7 31 0 (σ7 22 0 9).toNatClampNeg a0) 22 0 9).toNatClampNeg a1) 33 0 ((um (um σ7 31 0 (σ7 22 0 9).toNatClampNeg a0) 32 0 ((um σ7 31 0 (σ7 22 0 9).toNatClampNeg a0) 22 0 9).toNatClampNeg a1) 22 0 9).toNatClampNeg a2) 34 0 ((um (um (um σ7 31 0 (σ7 22 0 9).toNatClampNeg a0) 32 0 ((um σ7 31 0 (σ7 22 0 9).toNatClampNeg a0) 22 0 9).toNatClampNeg a1) 33 0 ((um (um σ7 31 0 (σ7 22 0 9).toNatClampNeg a0) 32 0 ((um σ7 31 0 (σ7 22 0 9).toNatClampNeg a0) 22 0 9).toNatClampNeg a1) 22 0 9).toNatClampNeg a2) 22 0 9).toNatClampNeg (vp_nar .boolean 0)) 22 0 9).toNatClampNeg ((-2))) 22 0 9).toNatClampNeg 0) 22 0 9 (((um (um (um (um (um (um σ7 31 0 (σ7 22 0 9).toNatClampNeg a0) 32 0 ((um σ7 31 0 (σ7 22 0 9).toNatClampNeg a0) 22 0 9).toNatClampNeg a1) 33 0 ((um (um σ7 31 0 (σ7 22 0 9).toNatClampNeg a0) 32 0 ((um σ7 31 0 (σ7 22 0 9).toNatClampNeg a0) 22 0 9).toNatClampNeg a1) 22 0 9).toNatClampNeg a2) 34 0 ((um (um (um σ7 31 0 (σ7 22 0 9).toNatClampNeg a0) 32 0 ((um σ7 31 0 (σ7 22 0 9).toNatClampNeg a0) 22 0 9).toNatClampNeg a1) 33 0 ((um (um σ7 31 0 (σ7 22 0 9).toNatClampNeg a0) 32 0 ((um σ7 31 0 (σ7 22 0 9).toNatClampNeg a0) 22 0 9).toNatClampNeg a1) 22 0 9).toNatClampNeg a2) 22 0 9).toNatClampNeg (vp_nar .boolean 0)) 35 0 ((um (um (um (um σ7 31 0 (σ7 22 0 9).toNatClampNeg a0) 32 0 ((um σ7 31 0 (σ7 22 0 9).toNatClampNeg a0) 22 0 9).toNatClampNeg a1) 33 0 ((um (um σ7 31 0 (σ7 22 0 9).toNatClampNeg a0) 32 0 ((um σ7 31 0 (σ7 22 0 9).toNatClampNeg a0) 22 0 9).toNatClampNeg a1) 22 0 9).toNatClampNeg a2) 34 0 ((um (um (um σ7 31 0 (σ7 22 0 9).toNatClampNeg a0) 32 0 ((um σ7 31 0 (σ7 22 0 9).toNatClampNeg a0) 22 0 9).toNatClampNeg a1) 33 0 ((um (um σ7 31 0 (σ7 22 0 9).toNatClampNeg a0) 32 0 ((um σ7 31 0 (σ7 22 0 9).toNatClampNeg a0) 22 0 9).toNatClampNeg a1) 22 0 9).toNatClampNeg a2) 22 0 9).toNatClampNeg (vp_nar .boolean 0)) 22 0 9).toNatClampNeg ((-2))) 36 0 ((um (um (um (um (um σ7 31 0 (σ7 22 0 9).toNatClampNeg a0) 32 0 ((um σ7 31 0 (σ7 22 0 9).toNatClampNeg a0) 22 0 9).toNatClampNeg a1) 33 0 ((um (um σ7 31 0 (σ7 22 0 9).toNatClampNeg a0) 32 0 ((um σ7 31 0 (σ7 22 0 9).toNatClampNeg a0) 22 0 9).toNatClampNeg a1) 22 0 9).toNatClampNeg a2) 34 0 ((um (um (um σ7 31 0 (σ7 22 0 9).toNatClampNeg a0) 32 0 ((um σ7 31 0 (σ7 22 0 9).toNatClampNeg a0) 22 0 9).toNatClampNeg a1) 33 0 ((um (um σ7 31 0 (σ7 22 0 9).toNatClampNeg a0) 32 0 ((um σ7 31 0 (σ7 22 0 9).toNatClampNeg a0) 22 0 9).toNatClampNeg a1) 22 0 9).toNatClampNeg a2) 22 0 9).toNatClampNeg (vp_nar .boolean 0)) 35 0 ((um (um (um (um σ7 31 0 (σ7 22 0 9).toNatClampNeg a0) 32 0 ((um σ7 31 0 (σ7 22 0 9).toNatClampNeg a0) 22 0 9).toNatClampNeg a1) 33 0 ((um (um σ7 31 0 (σ7 22 0 9).toNatClampNeg a0) 32 0 ((um σ7 31 0 (σ7 22 0 9).toNatClampNeg a0) 22 0 9).toNatClampNeg a1) 22 0 9).toNatClampNeg a2) 34 0 ((um (um (um σ7 31 0 (σ7 22 0 9).toNatClampNeg a0) 32 0 ((um σ7 31 0 (σ7 22 0 9).toNatClampNeg a0) 22 0 9).toNatClampNeg a1) 33 0 ((um (um σ7 31 0 (σ7 22 0 9).toNatClampNeg a0) 32 0 ((um σ7 31 0 (σ7 22 0 9).toNatClampNeg a0) 22 0 9).toNatClampNeg a1) 22 0 9).toNatClampNeg a2) 22 0 9).toNatClampNeg (vp_nar .boolean 0)) 22 0 9).toNatClampNeg ((-2))) 22 0 9).toNatClampNeg 0) 22 0 9) + 1)) 22 0 9) - 1) (um (um (um (um (um (um (um σ7 31 0 (σ7 22 0 9).toNatClampNeg a0) 32 0 ((um σ7 31 0 (σ7 22 0 9).toNatClampNeg a0) 22 0 9).toNatClampNeg a1) 33 0 ((um (um σ7 31 0 (σ7 22 0 9).toNatClampNeg a0) 32 0 ((um σ7 31 0 (σ7 22 0 9).toNatClampNeg a0) 22 0 9).toNatClampNeg a1) 22 0 9).toNatClampNeg a2) 34 0 ((um (um (um σ7 31 0 (σ7 22 0 9).toNatClampNeg a0) 32 0 ((um σ7 31 0 (σ7 22 0 9).toNatClampNeg a0) 22 0 9).toNatClampNeg a1) 33 0 ((um (um σ7 31 0 (σ7 22 0 9).toNatClampNeg a0) 32 0 ((um σ7 31 0 (σ7 22 0 9).toNatClampNeg a0) 22 0 9).toNatClampNeg a1) 22 0 9).toNatClampNeg a2) 22 0 9).toNatClampNeg (vp_nar .boolean 0)) 35 0 ((um (um (um (um σ7 31 0 (σ7 22 0 9).toNatClampNeg a0) 32 0 ((um σ7 31 0 (σ7 22 0 9).toNatClampNeg a0) 22 0 9).toNatClampNeg a1) 33 0 ((um (um σ7 31 0 (σ7 22 0 9).toNatClampNeg a0) 32 0 ((um σ7 31 0 (σ7 22 0 9).toNatClampNeg a0) 22 0 9).toNatClampNeg a1) 22 0 9).toNatClampNeg a2) 34 0 ((um (um (um σ7 31 0 (σ7 22 0 9).toNatClampNeg a0) 32 0 ((um σ7 31 0 (σ7 22 0 9).toNatClampNeg a0) 22 0 9).toNatClampNeg a1) 33 0 ((um (um σ7 31 0 (σ7 22 0 9).toNatClampNeg a0) 32 0 ((um σ7 31 0 (σ7 22 0 9).toNatClampNeg a0) 22 0 9).toNatClampNeg a1) 22 0 9).toNatClampNeg a2) 22 0 9).toNatClampNeg (vp_nar .boolean 0)) 22 0 9).toNatClampNeg ((-2))) 36 0 ((um (um (um (um (um σ7 31 0 (σ7 22 0 9).toNatClampNeg a0) 32 0 ((um σ7 31 0 (σ7 22 0 9).toNatClampNeg a0) 22 0 9).toNatClampNeg a1) 33 0 ((um (um σ7 31 0 (σ7 22 0 9).toNatClampNeg a0) 32 0 ((um σ7 31 0 (σ7 22 0 9).toNatClampNeg a0) 22 0 9).toNatClampNeg a1) 22 0 9).toNatClampNeg a2) 34 0 ((um (um (um σ7 31 0 (σ7 22 0 9).toNatClampNeg a0) 32 0 ((um σ7 31 0 (σ7 22 0 9).toNatClampNeg a0) 22 0 9).toNatClampNeg a1) 33 0 ((um (um σ7 31 0 (σ7 22 0 9).toNatClampNeg a0) 32 0 ((um σ7 31 0 (σ7 22 0 9).toNatClampNeg a0) 22 0 9).toNatClampNeg a1) 22 0 9).toNatClampNeg a2) 22 0 9).toNatClampNeg (vp_nar .boolean 0)) 35 0 ((um (um (um (um σ7 31 0 (σ7 22 0 9).toNatClampNeg a0) 32 0 ((um σ7 31 0 (σ7 22 0 9).toNatClampNeg a0) 22 0 9).toNatClampNeg a1) 33 0 ((um (um σ7 31 0 (σ7 22 0 9).toNatClampNeg a0) 32 0 ((um σ7 31 0 (σ7 22 0 9).toNatClampNeg a0) 22 0 9).toNatClampNeg a1) 22 0 9).toNatClampNeg a2) 34 0 ((um (um (um σ7 31 0 (σ7 22 0 9).toNatClampNeg a0) 32 0 ((um σ7 31 0 (σ7 22 0 9).toNatClampNeg a0) 22 0 9).toNatClampNeg a1) 33 0 ((um (um σ7 31 0 (σ7 22 0 9).toNatClampNeg a0) 32 0 ((um σ7 31 0 (σ7 22 0 9).toNatClampNeg a0) 22 0 9).toNatClampNeg a1) 22 0 9).toNatClampNeg a2) 22 0 9).toNatClampNeg (vp_nar .boolean 0)) 22 0 9).toNatClampNeg ((-2))) 22 0 9).toNatClampNeg 0) 22 0 9 (((um (um (um (um (um (um σ7 31 0 (σ7 22 0 9).toNatClampNeg a0) 32 0 ((um σ7 31 0 (σ7 22 0 9).toNatClampNeg a0) 22 0 9).toNatClampNeg a1) 33 0 ((um (um σ7 31 0 (σ7 22 0 9).toNatClampNeg a0) 32 0 ((um σ7 31 0 (σ7 22 0 9).toNatClampNeg a0) 22 0 9).toNatClampNeg a1) 22 0 9).toNatClampNeg a2) 34 0 ((um (um (um σ7 31 0 (σ7 22 0 9).toNatClampNeg a0) 32 0 ((um σ7 31 0 (σ7 22 0 9).toNatClampNeg a0) 22 0 9).toNatClampNeg a1) 33 0 ((um (um σ7 31 0 (σ7 22 0 9).toNatClampNeg a0) 32 0 ((um σ7 31 0 (σ7 22 0 9).toNatClampNeg a0) 22 0 9).toNatClampNeg a1) 22 0 9).toNatClampNeg a2) 22 0 9).toNatClampNeg (vp_nar .boolean 0)) 35 0 ((um (um (um (um σ7 31 0 (σ7 22 0 9).toNatClampNeg a0) 32 0 ((um σ7 31 0 (σ7 22 0 9).toNatClampNeg a0) 22 0 9).toNatClampNeg a1) 33 0 ((um (um σ7 31 0 (σ7 22 0 9).toNatClampNeg a0) 32 0 ((um σ7 31 0 (σ7 22 0 9).toNatClampNeg a0) 22 0 9).toNatClampNeg a1) 22 0 9).toNatClampNeg a2) 34 0 ((um (um (um σ7 31 0 (σ7 22 0 9).toNatClampNeg a0) 32 0 ((um σ7 31 0 (σ7 22 0 9).toNatClampNeg a0) 22 0 9).toNatClampNeg a1) 33 0 ((um (um σ7 31 0 (σ7 22 0 9).toNatClampNeg a0) 32 0 ((um σ7 31 0 (σ7 22 0 9).toNatClampNeg a0) 22 0 9).toNatClampNeg a1) 22 0 9).toNatClampNeg a2) 22 0 9).toNatClampNeg (vp_nar .boolean 0)) 22 0 9).toNatClampNeg ((-2))) 36 0 ((um (um (um (um (um σ7 31 0 (σ7 22 0 9).toNatClampNeg a0) 32 0 ((um σ7 31 0 (σ7 22 0 9).toNatClampNeg a0) 22 0 9).toNatClampNeg a1) 33 0 ((um (um σ7 31 0 (σ7 22 0 9).toNatClampNeg a0) 32 0 ((um σ7 31 0 (σ7 22 0 9).toNatClampNeg a0) 22 0 9).toNatClampNeg a1) 22 0 9).toNatClampNeg a2) 34 0 ((um (um (um σ7 31 0 (σ7 22 0 9).toNatClampNeg a0) 32 0 ((um σ7 31 0 (σ7 22 0 9).toNatClampNeg a0) 22 0 9).toNatClampNeg a1) 33 0 ((um (um σ7 31 0 (σ7 22 0 9).toNatClampNeg a0) 32 0 ((um σ7 31 0 (σ7 22 0 9).toNatClampNeg a0) 22 0 9).toNatClampNeg a1) 22 0 9).toNatClampNeg a2) 22 0 9).toNatClampNeg (vp_nar .boolean 0)) 35 0 ((um (um (um (um σ7 31 0 (σ7 22 0 9).toNatClampNeg a0) 32 0 ((um σ7 31 0 (σ7 22 0 9).toNatClampNeg a0) 22 0 9).toNatClampNeg a1) 33 0 ((um (um σ7 31 0 (σ7 22 0 9).toNatClampNeg a0) 32 0 ((um σ7 31 0 (σ7 22 0 9).toNatClampNeg a0) 22 0 9).toNatClampNeg a1) 22 0 9).toNatClampNeg a2) 34 0 ((um (um (um σ7 31 0 (σ7 22 0 9).toNatClampNeg a0) 32 0 ((um σ7 31 0 (σ7 22 0 9).toNatClampNeg a0) 22 0 9).toNatClampNeg a1) 33 0 ((um (um σ7 31 0 (σ7 22 0 9).toNatClampNeg a0) 32 0 ((um σ7 31 0 (σ7 22 0 9).toNatClampNeg a0) 22 0 9).toNatClampNeg a1) 22 0 9).toNatClampNeg a2) 22 0 9).toNatClampNeg (vp_nar .boolean 0)) 22 0 9).toNatClampNeg ((-2))) 22 0 9).toNatClampNeg 0) 22 0 9) + 1))) ∧ (((σ7 22 0 9) = 10) → Q ((-2)) σ7)) ∧ ((r8 = 0) → Q ((-1)) σ7))))))
set_option maxHeartbeats 4000000 in
set_option maxRecDepth 100000 in
theorem sc_X11_buyer (l : Launch) (E : zE) (σ : zMem) (a0 : Int32) (a1 : Int32) (a2 : Int32) (Q : Int32 → zMem → Prop) (h : vc_X11_buyer σ a0 a1 a2 Q) : zMi l yX11_buyer cX11_buyer 4 .int 2 42 E [.ref (E.2.2 22 0), .int a0, .int a1, .int a2] σ Q := by
  refine zMi_of (by decide) (Nat.le_of_ble_eq_true rfl) ?_
  intro p e s m args below meth c C
  unfold vc_X11_buyer at h
  have fin : zG p l e (zRm 2 42) s m args below meth c 4 E 0 0 (MQ below (va_Qi Q (zPost E) (zA E s.heap.size)) args s 0 0 (zA E s.heap.size)) σ 0 [(0, .ref (E.2.2 22 0)), (1, .int a0), (2, .int a1), (3, .int a2)] [] := by
    refine z_iload_n (pc' := 1) C dX11_buyer_0 rfl 1 rfl rfl ?_
    refine z_iconst (v := 0) (pc' := 2) C dX11_buyer_1 (by decide) rfl ?_
    refine z_bipush (v := 50) (pc' := 4) C dX11_buyer_2 (by decide) rfl ?_
    refine z_callSi (pc' := 7) (st := []) (As := [.int a0, .int 0, .int 50]) C (sc_X11_in l E σ a0 0 50 _ h) zwX11_114_X11_in ztX11_114_X11_in ⟨(Nat.le_of_ble_eq_true rfl), (Nat.le_of_ble_eq_true rfl)⟩ ⟨Nat.zero_le _, Nat.zero_le _⟩ rfl rfl (Nat.le_of_ble_eq_true rfl) dX11_buyer_4 rfl (fun r2 σ1 h => ?_)
    obtain ⟨ht, hf⟩ := h
    refine z_if_eq (tgt := 27) (pc' := 10) C dX11_buyer_7 (by decide) rfl (fun c3 => ?_) (fun c3 => ?_)
    · have h := ht c3
      refine z_iconst (v := (-1)) (pc' := 28) C dX11_buyer_27 (by decide) rfl ?_
      exact z_iret C dX11_buyer_28 h
    · have h := hf c3
      refine z_iload_n (pc' := 11) C dX11_buyer_10 rfl 2 rfl rfl ?_
      refine z_iconst (v := 0) (pc' := 12) C dX11_buyer_11 (by decide) rfl ?_
      refine z_ldc (v := 100000) (pc' := 14) C (zr8 _ (List.mem_of_getElem? (i := 21) rfl)) dX11_buyer_12 rfl ?_
      refine z_callSi (pc' := 17) (st := []) (As := [.int a1, .int 0, .int 100000]) C (sc_X11_in l E σ1 a1 0 100000 _ h) zwX11_114_X11_in ztX11_114_X11_in ⟨(Nat.le_of_ble_eq_true rfl), (Nat.le_of_ble_eq_true rfl)⟩ ⟨Nat.zero_le _, Nat.zero_le _⟩ rfl rfl (Nat.le_of_ble_eq_true rfl) dX11_buyer_14 rfl (fun r5 σ4 h => ?_)
      obtain ⟨ht, hf⟩ := h
      refine z_if_eq (tgt := 27) (pc' := 20) C dX11_buyer_17 (by decide) rfl (fun c6 => ?_) (fun c6 => ?_)
      · have h := ht c6
        refine z_iconst (v := (-1)) (pc' := 28) C dX11_buyer_27 (by decide) rfl ?_
        exact z_iret C dX11_buyer_28 h
      · have h := hf c6
        refine z_iload_n (pc' := 21) C dX11_buyer_20 rfl 3 rfl rfl ?_
        refine z_callSi (pc' := 24) (st := []) (As := [.int a2]) C (sc_X11_isPlot l E σ4 a2 _ h) zwX11_121_X11_isPlot ztX11_121_X11_isPlot ⟨(Nat.le_of_ble_eq_true rfl), (Nat.le_of_ble_eq_true rfl)⟩ ⟨Nat.zero_le _, Nat.zero_le _⟩ rfl rfl (Nat.le_of_ble_eq_true rfl) dX11_buyer_21 rfl (fun r8 σ7 h => ?_)
        obtain ⟨ht, hf⟩ := h
        refine z_if_ne (tgt := 29) (pc' := 27) C dX11_buyer_24 (by decide) rfl (fun c9 => ?_) (fun c9 => ?_)
        · have h := ht c9
          refine z_aload_n (pc' := 30) C dX11_buyer_29 rfl 0 rfl rfl ?_
          refine zgX11_118 (pc' := 33) C zo22 dX11_buyer_30 rfl ?_
          refine z_bipush (v := 10) (pc' := 35) C dX11_buyer_33 (by decide) rfl ?_
          obtain ⟨ht, hf⟩ := h
          refine z_icmp_ne (tgt := 41) (pc' := 38) C dX11_buyer_35 (by decide) rfl (fun c10 => ?_) (fun c10 => ?_)
          · have h := ht c10
            refine z_aload_n (pc' := 42) C dX11_buyer_41 rfl 0 rfl rfl ?_
            refine zgX11_35 (pc' := 45) C zo22 dX11_buyer_42 rfl ?_
            refine z_aload_n (pc' := 46) C dX11_buyer_45 rfl 0 rfl rfl ?_
            refine zgX11_118 (pc' := 49) C zo22 dX11_buyer_46 rfl ?_
            refine z_iload_n (pc' := 50) C dX11_buyer_49 rfl 1 rfl rfl ?_
            obtain ⟨hv11, h⟩ := h
            refine z_iast (n := 10) (pc' := 51) C (zL_mem (by decide) zo31) (fun _ => rfl) hv11 dX11_buyer_50 rfl ?_
            refine z_aload_n (pc' := 52) C dX11_buyer_51 rfl 0 rfl rfl ?_
            refine zgX11_38 (pc' := 55) C zo22 dX11_buyer_52 rfl ?_
            refine z_aload_n (pc' := 56) C dX11_buyer_55 rfl 0 rfl rfl ?_
            refine zgX11_118 (pc' := 59) C zo22 dX11_buyer_56 rfl ?_
            refine z_iload_n (pc' := 60) C dX11_buyer_59 rfl 2 rfl rfl ?_
            obtain ⟨hv12, h⟩ := h
            refine z_iast (n := 10) (pc' := 61) C (zL_mem (by decide) zo32) (fun _ => rfl) hv12 dX11_buyer_60 rfl ?_
            refine z_aload_n (pc' := 62) C dX11_buyer_61 rfl 0 rfl rfl ?_
            refine zgX11_41 (pc' := 65) C zo22 dX11_buyer_62 rfl ?_
            refine z_aload_n (pc' := 66) C dX11_buyer_65 rfl 0 rfl rfl ?_
            refine zgX11_118 (pc' := 69) C zo22 dX11_buyer_66 rfl ?_
            refine z_iload_n (pc' := 70) C dX11_buyer_69 rfl 3 rfl rfl ?_
            obtain ⟨hv13, h⟩ := h
            refine z_iast (n := 10) (pc' := 71) C (zL_mem (by decide) zo33) (fun _ => rfl) hv13 dX11_buyer_70 rfl ?_
            refine z_aload_n (pc' := 72) C dX11_buyer_71 rfl 0 rfl rfl ?_
            refine zgX11_44 (pc' := 75) C zo22 dX11_buyer_72 rfl ?_
            refine z_aload_n (pc' := 76) C dX11_buyer_75 rfl 0 rfl rfl ?_
            refine zgX11_118 (pc' := 79) C zo22 dX11_buyer_76 rfl ?_
            refine z_iconst (v := 0) (pc' := 80) C dX11_buyer_79 (by decide) rfl ?_
            obtain ⟨hv14, h⟩ := h
            refine z_zast (n := 10) (pc' := 81) C (zL_mem (by decide) zo34) (fun _ => rfl) hv14 dX11_buyer_80 rfl ?_
            refine z_aload_n (pc' := 82) C dX11_buyer_81 rfl 0 rfl rfl ?_
            refine zgX11_47 (pc' := 85) C zo22 dX11_buyer_82 rfl ?_
            refine z_aload_n (pc' := 86) C dX11_buyer_85 rfl 0 rfl rfl ?_
            refine zgX11_118 (pc' := 89) C zo22 dX11_buyer_86 rfl ?_
            refine z_bipush (v := (-2)) (pc' := 91) C dX11_buyer_89 (by decide) rfl ?_
            obtain ⟨hv15, h⟩ := h
            refine z_iast (n := 10) (pc' := 92) C (zL_mem (by decide) zo35) (fun _ => rfl) hv15 dX11_buyer_91 rfl ?_
            refine z_aload_n (pc' := 93) C dX11_buyer_92 rfl 0 rfl rfl ?_
            refine zgX11_50 (pc' := 96) C zo22 dX11_buyer_93 rfl ?_
            refine z_aload_n (pc' := 97) C dX11_buyer_96 rfl 0 rfl rfl ?_
            refine zgX11_118 (pc' := 100) C zo22 dX11_buyer_97 rfl ?_
            refine z_iconst (v := 0) (pc' := 101) C dX11_buyer_100 (by decide) rfl ?_
            obtain ⟨hv16, h⟩ := h
            refine z_iast (n := 10) (pc' := 102) C (zL_mem (by decide) zo36) (fun _ => rfl) hv16 dX11_buyer_101 rfl ?_
            refine z_aload_n (pc' := 103) C dX11_buyer_102 rfl 0 rfl rfl ?_
            refine z_dup (pc' := 104) C dX11_buyer_103 rfl rfl ?_
            refine zgX11_118 (pc' := 107) C zo22 dX11_buyer_104 rfl ?_
            refine z_iconst (v := 1) (pc' := 108) C dX11_buyer_107 (by decide) rfl ?_
            refine z_iadd (pc' := 109) C dX11_buyer_108 rfl ?_
            refine zpX11_118 (pc' := 112) C zo22 dX11_buyer_109 rfl ?_
            refine z_aload_n (pc' := 113) C dX11_buyer_112 rfl 0 rfl rfl ?_
            refine zgX11_118 (pc' := 116) C zo22 dX11_buyer_113 rfl ?_
            refine z_iconst (v := 1) (pc' := 117) C dX11_buyer_116 (by decide) rfl ?_
            refine z_isub (pc' := 118) C dX11_buyer_117 rfl ?_
            exact z_iret C dX11_buyer_118 h
          · have h := hf c10
            refine z_bipush (v := (-2)) (pc' := 40) C dX11_buyer_38 (by decide) rfl ?_
            exact z_iret C dX11_buyer_40 h
        · have h := hf c9
          refine z_iconst (v := (-1)) (pc' := 28) C dX11_buyer_27 (by decide) rfl ?_
          exact z_iret C dX11_buyer_28 h
  exact fin
def vc_X11_purse (σ : zMem) (a0 : Int32) (a1 : Int32) (Q : Int32 → zMem → Prop) : Prop := vc_X11_isBuyer σ a0 (fun r2 σ1 => ((r2 = 0) → Q ((-1)) σ1) ∧ ((¬ r2 = 0) → vc_X11_in σ1 a1 0 100000 (fun r5 σ4 => ((¬ r5 = 0) → vp_in a0 10 ∧ vp_in a0 10 ∧ Q (σ4 32 0 a0.toNatClampNeg) (um σ4 32 0 a0.toNatClampNeg a1)) ∧ ((r5 = 0) → Q ((-1)) σ4))))
set_option maxHeartbeats 4000000 in
set_option maxRecDepth 100000 in
theorem sc_X11_purse (l : Launch) (E : zE) (σ : zMem) (a0 : Int32) (a1 : Int32) (Q : Int32 → zMem → Prop) (h : vc_X11_purse σ a0 a1 Q) : zMi l yX11_purse cX11_purse 4 .int 2 43 E [.ref (E.2.2 22 0), .int a0, .int a1] σ Q := by
  refine zMi_of (by decide) (Nat.le_of_ble_eq_true rfl) ?_
  intro p e s m args below meth c C
  unfold vc_X11_purse at h
  have fin : zG p l e (zRm 2 43) s m args below meth c 4 E 0 0 (MQ below (va_Qi Q (zPost E) (zA E s.heap.size)) args s 0 0 (zA E s.heap.size)) σ 0 [(0, .ref (E.2.2 22 0)), (1, .int a0), (2, .int a1)] [] := by
    refine z_aload_n (pc' := 1) C dX11_purse_0 rfl 0 rfl rfl ?_
    refine z_iload_n (pc' := 2) C dX11_purse_1 rfl 1 rfl rfl ?_
    refine z_callVi (q := 22) (i := 0) (w9 := (RX11, TX11, 40)) (pc' := 5) (st := []) (As := [.int a0]) C (sc_X11_isBuyer l E σ a0 _ h) zwX11_126_X11_isBuyer zvX11_126_X11_isBuyer.1 zvX11_126_X11_isBuyer.2 (zL_mem (by decide) zo22) rfl rfl ⟨(Nat.le_of_ble_eq_true rfl), (Nat.le_of_ble_eq_true rfl)⟩ ⟨Nat.zero_le _, Nat.zero_le _⟩ rfl rfl (Nat.le_of_ble_eq_true rfl) dX11_purse_2 rfl (fun r2 σ1 h => ?_)
    obtain ⟨ht, hf⟩ := h
    refine z_if_eq (tgt := 18) (pc' := 8) C dX11_purse_5 (by decide) rfl (fun c3 => ?_) (fun c3 => ?_)
    · have h := ht c3
      refine z_iconst (v := (-1)) (pc' := 19) C dX11_purse_18 (by decide) rfl ?_
      exact z_iret C dX11_purse_19 h
    · have h := hf c3
      refine z_iload_n (pc' := 9) C dX11_purse_8 rfl 2 rfl rfl ?_
      refine z_iconst (v := 0) (pc' := 10) C dX11_purse_9 (by decide) rfl ?_
      refine z_ldc (v := 100000) (pc' := 12) C (zr8 _ (List.mem_of_getElem? (i := 21) rfl)) dX11_purse_10 rfl ?_
      refine z_callSi (pc' := 15) (st := []) (As := [.int a1, .int 0, .int 100000]) C (sc_X11_in l E σ1 a1 0 100000 _ h) zwX11_114_X11_in ztX11_114_X11_in ⟨(Nat.le_of_ble_eq_true rfl), (Nat.le_of_ble_eq_true rfl)⟩ ⟨Nat.zero_le _, Nat.zero_le _⟩ rfl rfl (Nat.le_of_ble_eq_true rfl) dX11_purse_12 rfl (fun r5 σ4 h => ?_)
      obtain ⟨ht, hf⟩ := h
      refine z_if_ne (tgt := 20) (pc' := 18) C dX11_purse_15 (by decide) rfl (fun c6 => ?_) (fun c6 => ?_)
      · have h := ht c6
        refine z_aload_n (pc' := 21) C dX11_purse_20 rfl 0 rfl rfl ?_
        refine zgX11_38 (pc' := 24) C zo22 dX11_purse_21 rfl ?_
        refine z_iload_n (pc' := 25) C dX11_purse_24 rfl 1 rfl rfl ?_
        obtain ⟨hv7, h⟩ := h
        refine z_iald (n := 10) (pc' := 26) C (zL_mem (by decide) zo32) (fun _ => rfl) hv7 dX11_purse_25 rfl ?_
        refine z_istore_n (pc' := 27) (lv' := [(3, .int (σ4 32 0 a0.toNatClampNeg)), (0, .ref (E.2.2 22 0)), (1, .int a0), (2, .int a1)]) C dX11_purse_26 rfl (by decide) rfl rfl ?_
        refine z_aload_n (pc' := 28) C dX11_purse_27 rfl 1 rfl rfl ?_
        refine zgX11_38 (pc' := 31) C zo22 dX11_purse_28 rfl ?_
        refine z_iload_n (pc' := 32) C dX11_purse_31 rfl 2 rfl rfl ?_
        refine z_iload_n (pc' := 33) C dX11_purse_32 rfl 3 rfl rfl ?_
        obtain ⟨hv8, h⟩ := h
        refine z_iast (n := 10) (pc' := 34) C (zL_mem (by decide) zo32) (fun _ => rfl) hv8 dX11_purse_33 rfl ?_
        refine z_iload_n (pc' := 35) C dX11_purse_34 rfl 0 rfl rfl ?_
        exact z_iret C dX11_purse_35 h
      · have h := hf c6
        refine z_iconst (v := (-1)) (pc' := 19) C dX11_purse_18 (by decide) rfl ?_
        exact z_iret C dX11_purse_19 h
  exact fin
def vc_X11_waits (σ : zMem) (a0 : Int32) (a1 : Int32) (Q : Int32 → zMem → Prop) : Prop := vc_X11_isBuyer σ a0 (fun r2 σ1 => ((¬ r2 = 0) → vp_in a0 10 ∧ (((σ1 34 0 a0.toNatClampNeg) = a1) → vp_in a0 10 ∧ Q 0 (um σ1 34 0 a0.toNatClampNeg (vp_nar .boolean a1))) ∧ ((¬ (σ1 34 0 a0.toNatClampNeg) = a1) → vp_in a0 10 ∧ Q 1 (um σ1 34 0 a0.toNatClampNeg (vp_nar .boolean a1)))) ∧ ((r2 = 0) → Q ((-1)) σ1))
set_option maxHeartbeats 4000000 in
set_option maxRecDepth 100000 in
theorem sc_X11_waits (l : Launch) (E : zE) (σ : zMem) (a0 : Int32) (a1 : Int32) (Q : Int32 → zMem → Prop) (h : vc_X11_waits σ a0 a1 Q) : zMi l yX11_waits cX11_waits 4 .int 2 43 E [.ref (E.2.2 22 0), .int a0, .int a1] σ Q := by
  refine zMi_of (by decide) (Nat.le_of_ble_eq_true rfl) ?_
  intro p e s m args below meth c C
  unfold vc_X11_waits at h
  have fin : zG p l e (zRm 2 43) s m args below meth c 4 E 0 0 (MQ below (va_Qi Q (zPost E) (zA E s.heap.size)) args s 0 0 (zA E s.heap.size)) σ 0 [(0, .ref (E.2.2 22 0)), (1, .int a0), (2, .int a1)] [] := by
    refine z_aload_n (pc' := 1) C dX11_waits_0 rfl 0 rfl rfl ?_
    refine z_iload_n (pc' := 2) C dX11_waits_1 rfl 1 rfl rfl ?_
    refine z_callVi (q := 22) (i := 0) (w9 := (RX11, TX11, 40)) (pc' := 5) (st := []) (As := [.int a0]) C (sc_X11_isBuyer l E σ a0 _ h) zwX11_126_X11_isBuyer zvX11_126_X11_isBuyer.1 zvX11_126_X11_isBuyer.2 (zL_mem (by decide) zo22) rfl rfl ⟨(Nat.le_of_ble_eq_true rfl), (Nat.le_of_ble_eq_true rfl)⟩ ⟨Nat.zero_le _, Nat.zero_le _⟩ rfl rfl (Nat.le_of_ble_eq_true rfl) dX11_waits_2 rfl (fun r2 σ1 h => ?_)
    obtain ⟨ht, hf⟩ := h
    refine z_if_ne (tgt := 10) (pc' := 8) C dX11_waits_5 (by decide) rfl (fun c3 => ?_) (fun c3 => ?_)
    · have h := ht c3
      refine z_aload_n (pc' := 11) C dX11_waits_10 rfl 0 rfl rfl ?_
      refine zgX11_44 (pc' := 14) C zo22 dX11_waits_11 rfl ?_
      refine z_iload_n (pc' := 15) C dX11_waits_14 rfl 1 rfl rfl ?_
      obtain ⟨hv4, h⟩ := h
      refine z_zald (n := 10) (pc' := 16) C (zL_mem (by decide) zo34) (fun _ => rfl) hv4 dX11_waits_15 rfl ?_
      refine z_iload_n (pc' := 17) C dX11_waits_16 rfl 2 rfl rfl ?_
      obtain ⟨ht, hf⟩ := h
      refine z_icmp_eq (tgt := 24) (pc' := 20) C dX11_waits_17 (by decide) rfl (fun c5 => ?_) (fun c5 => ?_)
      · have h := ht c5
        refine z_iconst (v := 0) (pc' := 25) C dX11_waits_24 (by decide) rfl ?_
        refine z_istore_n (pc' := 26) (lv' := [(3, .int 0), (0, .ref (E.2.2 22 0)), (1, .int a0), (2, .int a1)]) C dX11_waits_25 rfl (by decide) rfl rfl ?_
        refine z_aload_n (pc' := 27) C dX11_waits_26 rfl 1 rfl rfl ?_
        refine zgX11_44 (pc' := 30) C zo22 dX11_waits_27 rfl ?_
        refine z_iload_n (pc' := 31) C dX11_waits_30 rfl 2 rfl rfl ?_
        refine z_iload_n (pc' := 32) C dX11_waits_31 rfl 3 rfl rfl ?_
        obtain ⟨hv6, h⟩ := h
        refine z_zast (n := 10) (pc' := 33) C (zL_mem (by decide) zo34) (fun _ => rfl) hv6 dX11_waits_32 rfl ?_
        refine z_iload_n (pc' := 34) C dX11_waits_33 rfl 0 rfl rfl ?_
        exact z_iret C dX11_waits_34 h
      · have h := hf c5
        refine z_iconst (v := 1) (pc' := 21) C dX11_waits_20 (by decide) rfl ?_
        refine z_goto (tgt := 25) C dX11_waits_21 (by decide) ?_
        refine z_istore_n (pc' := 26) (lv' := [(3, .int 1), (0, .ref (E.2.2 22 0)), (1, .int a0), (2, .int a1)]) C dX11_waits_25 rfl (by decide) rfl rfl ?_
        refine z_aload_n (pc' := 27) C dX11_waits_26 rfl 1 rfl rfl ?_
        refine zgX11_44 (pc' := 30) C zo22 dX11_waits_27 rfl ?_
        refine z_iload_n (pc' := 31) C dX11_waits_30 rfl 2 rfl rfl ?_
        refine z_iload_n (pc' := 32) C dX11_waits_31 rfl 3 rfl rfl ?_
        obtain ⟨hv7, h⟩ := h
        refine z_zast (n := 10) (pc' := 33) C (zL_mem (by decide) zo34) (fun _ => rfl) hv7 dX11_waits_32 rfl ?_
        refine z_iload_n (pc' := 34) C dX11_waits_33 rfl 0 rfl rfl ?_
        exact z_iret C dX11_waits_34 h
    · have h := hf c3
      refine z_iconst (v := (-1)) (pc' := 9) C dX11_waits_8 (by decide) rfl ?_
      exact z_iret C dX11_waits_9 h
  exact fin
def vc_X11_surety (σ : zMem) (a0 : Int32) (a1 : Int32) (Q : Int32 → zMem → Prop) : Prop := vc_X11_isBuyer σ a0 (fun r2 σ1 => ((r2 = 0) → Q ((-1)) σ1) ∧ ((¬ r2 = 0) → ((a1 = a0) → Q ((-1)) σ1) ∧ ((¬ a1 = a0) → ((a1 = ((-1))) → vp_in a0 10 ∧ ((¬ a1 = ((-1))) → vp_in a0 10 ∧ Q (σ1 35 0 a0.toNatClampNeg) (um σ1 35 0 a0.toNatClampNeg a1)) ∧ ((a1 = ((-1))) → vp_in a0 10 ∧ Q (σ1 35 0 a0.toNatClampNeg) (um σ1 35 0 a0.toNatClampNeg ((-2))))) ∧ ((¬ a1 = ((-1))) → vc_X11_isBuyer σ1 a1 (fun r11 σ10 => ((¬ r11 = 0) → vp_in a0 10 ∧ ((¬ a1 = ((-1))) → vp_in a0 10 ∧ Q (σ10 35 0 a0.toNatClampNeg) (um σ10 35 0 a0.toNatClampNeg a1)) ∧ ((a1 = ((-1))) → vp_in a0 10 ∧ Q (σ10 35 0 a0.toNatClampNeg) (um σ10 35 0 a0.toNatClampNeg ((-2))))) ∧ ((r11 = 0) → Q ((-1)) σ10))))))
set_option maxHeartbeats 4000000 in
set_option maxRecDepth 100000 in
theorem sc_X11_surety (l : Launch) (E : zE) (σ : zMem) (a0 : Int32) (a1 : Int32) (Q : Int32 → zMem → Prop) (h : vc_X11_surety σ a0 a1 Q) : zMi l yX11_surety cX11_surety 4 .int 2 43 E [.ref (E.2.2 22 0), .int a0, .int a1] σ Q := by
  refine zMi_of (by decide) (Nat.le_of_ble_eq_true rfl) ?_
  intro p e s m args below meth c C
  unfold vc_X11_surety at h
  have fin : zG p l e (zRm 2 43) s m args below meth c 4 E 0 0 (MQ below (va_Qi Q (zPost E) (zA E s.heap.size)) args s 0 0 (zA E s.heap.size)) σ 0 [(0, .ref (E.2.2 22 0)), (1, .int a0), (2, .int a1)] [] := by
    refine z_aload_n (pc' := 1) C dX11_surety_0 rfl 0 rfl rfl ?_
    refine z_iload_n (pc' := 2) C dX11_surety_1 rfl 1 rfl rfl ?_
    refine z_callVi (q := 22) (i := 0) (w9 := (RX11, TX11, 40)) (pc' := 5) (st := []) (As := [.int a0]) C (sc_X11_isBuyer l E σ a0 _ h) zwX11_126_X11_isBuyer zvX11_126_X11_isBuyer.1 zvX11_126_X11_isBuyer.2 (zL_mem (by decide) zo22) rfl rfl ⟨(Nat.le_of_ble_eq_true rfl), (Nat.le_of_ble_eq_true rfl)⟩ ⟨Nat.zero_le _, Nat.zero_le _⟩ rfl rfl (Nat.le_of_ble_eq_true rfl) dX11_surety_2 rfl (fun r2 σ1 h => ?_)
    obtain ⟨ht, hf⟩ := h
    refine z_if_eq (tgt := 26) (pc' := 8) C dX11_surety_5 (by decide) rfl (fun c3 => ?_) (fun c3 => ?_)
    · have h := ht c3
      refine z_iconst (v := (-1)) (pc' := 27) C dX11_surety_26 (by decide) rfl ?_
      exact z_iret C dX11_surety_27 h
    · have h := hf c3
      refine z_iload_n (pc' := 9) C dX11_surety_8 rfl 2 rfl rfl ?_
      refine z_iload_n (pc' := 10) C dX11_surety_9 rfl 1 rfl rfl ?_
      obtain ⟨ht, hf⟩ := h
      refine z_icmp_eq (tgt := 26) (pc' := 13) C dX11_surety_10 (by decide) rfl (fun c4 => ?_) (fun c4 => ?_)
      · have h := ht c4
        refine z_iconst (v := (-1)) (pc' := 27) C dX11_surety_26 (by decide) rfl ?_
        exact z_iret C dX11_surety_27 h
      · have h := hf c4
        refine z_iload_n (pc' := 14) C dX11_surety_13 rfl 2 rfl rfl ?_
        refine z_iconst (v := (-1)) (pc' := 15) C dX11_surety_14 (by decide) rfl ?_
        obtain ⟨ht, hf⟩ := h
        refine z_icmp_eq (tgt := 28) (pc' := 18) C dX11_surety_15 (by decide) rfl (fun c5 => ?_) (fun c5 => ?_)
        · have h := ht c5
          refine z_aload_n (pc' := 29) C dX11_surety_28 rfl 0 rfl rfl ?_
          refine zgX11_47 (pc' := 32) C zo22 dX11_surety_29 rfl ?_
          refine z_iload_n (pc' := 33) C dX11_surety_32 rfl 1 rfl rfl ?_
          obtain ⟨hv6, h⟩ := h
          refine z_iald (n := 10) (pc' := 34) C (zL_mem (by decide) zo35) (fun _ => rfl) hv6 dX11_surety_33 rfl ?_
          refine z_istore_n (pc' := 35) (lv' := [(3, .int (σ1 35 0 a0.toNatClampNeg)), (0, .ref (E.2.2 22 0)), (1, .int a0), (2, .int a1)]) C dX11_surety_34 rfl (by decide) rfl rfl ?_
          refine z_aload_n (pc' := 36) C dX11_surety_35 rfl 1 rfl rfl ?_
          refine zgX11_47 (pc' := 39) C zo22 dX11_surety_36 rfl ?_
          refine z_iload_n (pc' := 40) C dX11_surety_39 rfl 2 rfl rfl ?_
          refine z_iload_n (pc' := 41) C dX11_surety_40 rfl 3 rfl rfl ?_
          refine z_iconst (v := (-1)) (pc' := 42) C dX11_surety_41 (by decide) rfl ?_
          obtain ⟨ht, hf⟩ := h
          refine z_icmp_ne (tgt := 50) (pc' := 45) C dX11_surety_42 (by decide) rfl (fun c7 => ?_) (fun c7 => ?_)
          · have h := ht c7
            refine z_iload_n (pc' := 51) C dX11_surety_50 rfl 3 rfl rfl ?_
            obtain ⟨hv8, h⟩ := h
            refine z_iast (n := 10) (pc' := 52) C (zL_mem (by decide) zo35) (fun _ => rfl) hv8 dX11_surety_51 rfl ?_
            refine z_iload_n (pc' := 53) C dX11_surety_52 rfl 0 rfl rfl ?_
            exact z_iret C dX11_surety_53 h
          · have h := hf c7
            refine z_bipush (v := (-2)) (pc' := 47) C dX11_surety_45 (by decide) rfl ?_
            refine z_goto (tgt := 51) C dX11_surety_47 (by decide) ?_
            obtain ⟨hv9, h⟩ := h
            refine z_iast (n := 10) (pc' := 52) C (zL_mem (by decide) zo35) (fun _ => rfl) hv9 dX11_surety_51 rfl ?_
            refine z_iload_n (pc' := 53) C dX11_surety_52 rfl 0 rfl rfl ?_
            exact z_iret C dX11_surety_53 h
        · have h := hf c5
          refine z_aload_n (pc' := 19) C dX11_surety_18 rfl 0 rfl rfl ?_
          refine z_iload_n (pc' := 20) C dX11_surety_19 rfl 2 rfl rfl ?_
          refine z_callVi (q := 22) (i := 0) (w9 := (RX11, TX11, 40)) (pc' := 23) (st := []) (As := [.int a1]) C (sc_X11_isBuyer l E σ1 a1 _ h) zwX11_126_X11_isBuyer zvX11_126_X11_isBuyer.1 zvX11_126_X11_isBuyer.2 (zL_mem (by decide) zo22) rfl rfl ⟨(Nat.le_of_ble_eq_true rfl), (Nat.le_of_ble_eq_true rfl)⟩ ⟨Nat.zero_le _, Nat.zero_le _⟩ rfl rfl (Nat.le_of_ble_eq_true rfl) dX11_surety_20 rfl (fun r11 σ10 h => ?_)
          obtain ⟨ht, hf⟩ := h
          refine z_if_ne (tgt := 28) (pc' := 26) C dX11_surety_23 (by decide) rfl (fun c12 => ?_) (fun c12 => ?_)
          · have h := ht c12
            refine z_aload_n (pc' := 29) C dX11_surety_28 rfl 0 rfl rfl ?_
            refine zgX11_47 (pc' := 32) C zo22 dX11_surety_29 rfl ?_
            refine z_iload_n (pc' := 33) C dX11_surety_32 rfl 1 rfl rfl ?_
            obtain ⟨hv13, h⟩ := h
            refine z_iald (n := 10) (pc' := 34) C (zL_mem (by decide) zo35) (fun _ => rfl) hv13 dX11_surety_33 rfl ?_
            refine z_istore_n (pc' := 35) (lv' := [(3, .int (σ10 35 0 a0.toNatClampNeg)), (0, .ref (E.2.2 22 0)), (1, .int a0), (2, .int a1)]) C dX11_surety_34 rfl (by decide) rfl rfl ?_
            refine z_aload_n (pc' := 36) C dX11_surety_35 rfl 1 rfl rfl ?_
            refine zgX11_47 (pc' := 39) C zo22 dX11_surety_36 rfl ?_
            refine z_iload_n (pc' := 40) C dX11_surety_39 rfl 2 rfl rfl ?_
            refine z_iload_n (pc' := 41) C dX11_surety_40 rfl 3 rfl rfl ?_
            refine z_iconst (v := (-1)) (pc' := 42) C dX11_surety_41 (by decide) rfl ?_
            obtain ⟨ht, hf⟩ := h
            refine z_icmp_ne (tgt := 50) (pc' := 45) C dX11_surety_42 (by decide) rfl (fun c14 => ?_) (fun c14 => ?_)
            · have h := ht c14
              refine z_iload_n (pc' := 51) C dX11_surety_50 rfl 3 rfl rfl ?_
              obtain ⟨hv15, h⟩ := h
              refine z_iast (n := 10) (pc' := 52) C (zL_mem (by decide) zo35) (fun _ => rfl) hv15 dX11_surety_51 rfl ?_
              refine z_iload_n (pc' := 53) C dX11_surety_52 rfl 0 rfl rfl ?_
              exact z_iret C dX11_surety_53 h
            · have h := hf c14
              refine z_bipush (v := (-2)) (pc' := 47) C dX11_surety_45 (by decide) rfl ?_
              refine z_goto (tgt := 51) C dX11_surety_47 (by decide) ?_
              obtain ⟨hv16, h⟩ := h
              refine z_iast (n := 10) (pc' := 52) C (zL_mem (by decide) zo35) (fun _ => rfl) hv16 dX11_surety_51 rfl ?_
              refine z_iload_n (pc' := 53) C dX11_surety_52 rfl 0 rfl rfl ?_
              exact z_iret C dX11_surety_53 h
          · have h := hf c12
            refine z_iconst (v := (-1)) (pc' := 27) C dX11_surety_26 (by decide) rfl ?_
            exact z_iret C dX11_surety_27 h
  exact fin
def vc_X11_step (σ : zMem) (a0 : Int32) (Q : Int32 → zMem → Prop) : Prop := vc_X11_in σ a0 1 100 (fun r2 σ1 => ((¬ r2 = 0) → Q (σ1 22 0 16) (um σ1 22 0 16 a0)) ∧ ((r2 = 0) → Q ((-1)) σ1))
set_option maxHeartbeats 4000000 in
set_option maxRecDepth 100000 in
theorem sc_X11_step (l : Launch) (E : zE) (σ : zMem) (a0 : Int32) (Q : Int32 → zMem → Prop) (h : vc_X11_step σ a0 Q) : zMi l yX11_step cX11_step 3 .int 1 22 E [.ref (E.2.2 22 0), .int a0] σ Q := by
  refine zMi_of (by decide) (Nat.le_of_ble_eq_true rfl) ?_
  intro p e s m args below meth c C
  unfold vc_X11_step at h
  have fin : zG p l e (zRm 1 22) s m args below meth c 3 E 0 0 (MQ below (va_Qi Q (zPost E) (zA E s.heap.size)) args s 0 0 (zA E s.heap.size)) σ 0 [(0, .ref (E.2.2 22 0)), (1, .int a0)] [] := by
    refine z_iload_n (pc' := 1) C dX11_step_0 rfl 1 rfl rfl ?_
    refine z_iconst (v := 1) (pc' := 2) C dX11_step_1 (by decide) rfl ?_
    refine z_bipush (v := 100) (pc' := 4) C dX11_step_2 (by decide) rfl ?_
    refine z_callSi (pc' := 7) (st := []) (As := [.int a0, .int 1, .int 100]) C (sc_X11_in l E σ a0 1 100 _ h) zwX11_114_X11_in ztX11_114_X11_in ⟨(Nat.le_of_ble_eq_true rfl), (Nat.le_of_ble_eq_true rfl)⟩ ⟨Nat.zero_le _, Nat.zero_le _⟩ rfl rfl (Nat.le_of_ble_eq_true rfl) dX11_step_4 rfl (fun r2 σ1 h => ?_)
    obtain ⟨ht, hf⟩ := h
    refine z_if_ne (tgt := 12) (pc' := 10) C dX11_step_7 (by decide) rfl (fun c3 => ?_) (fun c3 => ?_)
    · have h := ht c3
      refine z_aload_n (pc' := 13) C dX11_step_12 rfl 0 rfl rfl ?_
      refine zgX11_53 (pc' := 16) C zo22 dX11_step_13 rfl ?_
      refine z_istore_n (pc' := 17) (lv' := [(2, .int (σ1 22 0 16)), (0, .ref (E.2.2 22 0)), (1, .int a0)]) C dX11_step_16 rfl (by decide) rfl rfl ?_
      refine z_aload_n (pc' := 18) C dX11_step_17 rfl 1 rfl rfl ?_
      refine z_iload_n (pc' := 19) C dX11_step_18 rfl 2 rfl rfl ?_
      refine zpX11_53 (pc' := 22) C zo22 dX11_step_19 rfl ?_
      refine z_iload_n (pc' := 23) C dX11_step_22 rfl 0 rfl rfl ?_
      exact z_iret C dX11_step_23 h
    · have h := hf c3
      refine z_iconst (v := (-1)) (pc' := 11) C dX11_step_10 (by decide) rfl ?_
      exact z_iret C dX11_step_11 h
  exact fin
def vc_X11_chanceOf (σ : zMem) (a0 : Int32) (Q : Int32 → zMem → Prop) : Prop := ((¬ a0 = 0) → ((¬ a0 = 1) → ((¬ a0 = 2) → Q 95 σ) ∧ ((a0 = 2) → Q 25 σ)) ∧ ((a0 = 1) → Q 50 σ)) ∧ ((a0 = 0) → Q 80 σ)
set_option maxHeartbeats 4000000 in
set_option maxRecDepth 100000 in
theorem sc_X11_chanceOf (l : Launch) (E : zE) (σ : zMem) (a0 : Int32) (Q : Int32 → zMem → Prop) (h : vc_X11_chanceOf σ a0 Q) : zMi l yX11_chanceOf cX11_chanceOf 1 .int 0 0 E [.int a0] σ Q := by
  refine zMi_of (by decide) (Nat.le_of_ble_eq_true rfl) ?_
  intro p e s m args below meth c C
  unfold vc_X11_chanceOf at h
  have fin : zG p l e (zRm 0 0) s m args below meth c 1 E 0 0 (MQ below (va_Qi Q (zPost E) (zA E s.heap.size)) args s 0 0 (zA E s.heap.size)) σ 0 [(0, .int a0)] [] := by
    refine z_iload_n (pc' := 1) C dX11_chanceOf_0 rfl 0 rfl rfl ?_
    obtain ⟨ht, hf⟩ := h
    refine z_if_ne (tgt := 9) (pc' := 4) C dX11_chanceOf_1 (by decide) rfl (fun c1 => ?_) (fun c1 => ?_)
    · have h := ht c1
      refine z_iload_n (pc' := 10) C dX11_chanceOf_9 rfl 0 rfl rfl ?_
      refine z_iconst (v := 1) (pc' := 11) C dX11_chanceOf_10 (by decide) rfl ?_
      obtain ⟨ht, hf⟩ := h
      refine z_icmp_ne (tgt := 19) (pc' := 14) C dX11_chanceOf_11 (by decide) rfl (fun c2 => ?_) (fun c2 => ?_)
      · have h := ht c2
        refine z_iload_n (pc' := 20) C dX11_chanceOf_19 rfl 0 rfl rfl ?_
        refine z_iconst (v := 2) (pc' := 21) C dX11_chanceOf_20 (by decide) rfl ?_
        obtain ⟨ht, hf⟩ := h
        refine z_icmp_ne (tgt := 29) (pc' := 24) C dX11_chanceOf_21 (by decide) rfl (fun c3 => ?_) (fun c3 => ?_)
        · have h := ht c3
          refine z_bipush (v := 95) (pc' := 31) C dX11_chanceOf_29 (by decide) rfl ?_
          exact z_iret C dX11_chanceOf_31 h
        · have h := hf c3
          refine z_bipush (v := 25) (pc' := 26) C dX11_chanceOf_24 (by decide) rfl ?_
          refine z_goto (tgt := 31) C dX11_chanceOf_26 (by decide) ?_
          exact z_iret C dX11_chanceOf_31 h
      · have h := hf c2
        refine z_bipush (v := 50) (pc' := 16) C dX11_chanceOf_14 (by decide) rfl ?_
        refine z_goto (tgt := 31) C dX11_chanceOf_16 (by decide) ?_
        exact z_iret C dX11_chanceOf_31 h
    · have h := hf c1
      refine z_bipush (v := 80) (pc' := 6) C dX11_chanceOf_4 (by decide) rfl ?_
      refine z_goto (tgt := 31) C dX11_chanceOf_6 (by decide) ?_
      exact z_iret C dX11_chanceOf_31 h
  exact fin
def vc_X11_hayOf (σ : zMem) (a0 : Int32) (Q : Int32 → zMem → Prop) : Prop := vp_in a0 24 ∧ vp_in a0 24 ∧ vc_X11_chanceOf σ (σ 23 0 a0.toNatClampNeg) (fun r4 σ3 => Q (((σ 24 0 a0.toNatClampNeg) * r4) / 100) σ3)
set_option maxHeartbeats 4000000 in
set_option maxRecDepth 100000 in
theorem sc_X11_hayOf (l : Launch) (E : zE) (σ : zMem) (a0 : Int32) (Q : Int32 → zMem → Prop) (h : vc_X11_hayOf σ a0 Q) : zMi l yX11_hayOf cX11_hayOf 2 .int 1 20 E [.ref (E.2.2 22 0), .int a0] σ Q := by
  refine zMi_of (by decide) (Nat.le_of_ble_eq_true rfl) ?_
  intro p e s m args below meth c C
  unfold vc_X11_hayOf at h
  have fin : zG p l e (zRm 1 20) s m args below meth c 2 E 0 0 (MQ below (va_Qi Q (zPost E) (zA E s.heap.size)) args s 0 0 (zA E s.heap.size)) σ 0 [(0, .ref (E.2.2 22 0)), (1, .int a0)] [] := by
    refine z_aload_n (pc' := 1) C dX11_hayOf_0 rfl 0 rfl rfl ?_
    refine zgX11_13 (pc' := 4) C zo22 dX11_hayOf_1 rfl ?_
    refine z_iload_n (pc' := 5) C dX11_hayOf_4 rfl 1 rfl rfl ?_
    obtain ⟨hv1, h⟩ := h
    refine z_iald (n := 24) (pc' := 6) C (zL_mem (by decide) zo24) (fun _ => rfl) hv1 dX11_hayOf_5 rfl ?_
    refine z_aload_n (pc' := 7) C dX11_hayOf_6 rfl 0 rfl rfl ?_
    refine zgX11_7 (pc' := 10) C zo22 dX11_hayOf_7 rfl ?_
    refine z_iload_n (pc' := 11) C dX11_hayOf_10 rfl 1 rfl rfl ?_
    obtain ⟨hv2, h⟩ := h
    refine z_iald (n := 24) (pc' := 12) C (zL_mem (by decide) zo23) (fun _ => rfl) hv2 dX11_hayOf_11 rfl ?_
    refine z_callSi (pc' := 15) (st := [.int (σ 24 0 a0.toNatClampNeg)]) (As := [.int (σ 23 0 a0.toNatClampNeg)]) C (sc_X11_chanceOf l E σ (σ 23 0 a0.toNatClampNeg) _ h) zwX11_129_X11_chanceOf ztX11_129_X11_chanceOf ⟨(Nat.le_of_ble_eq_true rfl), (Nat.le_of_ble_eq_true rfl)⟩ ⟨Nat.zero_le _, Nat.zero_le _⟩ rfl rfl (Nat.le_of_ble_eq_true rfl) dX11_hayOf_12 rfl (fun r4 σ3 h => ?_)
    refine z_imul (pc' := 16) C dX11_hayOf_15 rfl ?_
    refine z_bipush (v := 100) (pc' := 18) C dX11_hayOf_16 (by decide) rfl ?_
    refine z_idiv (pc' := 19) C dX11_hayOf_18 (by decide) rfl ?_
    exact z_iret C dX11_hayOf_19 h
  exact fin
def vc_X11_stands (σ : zMem) (a0 : Int32) (Q : Int32 → zMem → Prop) : Prop := vp_in a0 24 ∧ (((σ 25 0 a0.toNatClampNeg) = 0) → Q 0 σ) ∧ ((¬ (σ 25 0 a0.toNatClampNeg) = 0) → vp_in a0 24 ∧ ((¬ (σ 29 0 a0.toNatClampNeg) = 0) → Q 0 σ) ∧ (((σ 29 0 a0.toNatClampNeg) = 0) → vp_in a0 24 ∧ (((σ 24 0 a0.toNatClampNeg) ≤ 0) → Q 0 σ) ∧ ((¬ (σ 24 0 a0.toNatClampNeg) ≤ 0) → Q 1 σ)))
set_option maxHeartbeats 4000000 in
set_option maxRecDepth 100000 in
theorem sc_X11_stands (l : Launch) (E : zE) (σ : zMem) (a0 : Int32) (Q : Int32 → zMem → Prop) (h : vc_X11_stands σ a0 Q) : zMi l yX11_stands cX11_stands 2 .boolean 0 0 E [.ref (E.2.2 22 0), .int a0] σ Q := by
  refine zMi_of (by decide) (Nat.le_of_ble_eq_true rfl) ?_
  intro p e s m args below meth c C
  unfold vc_X11_stands at h
  have fin : zG p l e (zRm 0 0) s m args below meth c 2 E 0 0 (MQ below (va_Qi Q (zPost E) (zA E s.heap.size)) args s 0 0 (zA E s.heap.size)) σ 0 [(0, .ref (E.2.2 22 0)), (1, .int a0)] [] := by
    refine z_aload_n (pc' := 1) C dX11_stands_0 rfl 0 rfl rfl ?_
    refine zgX11_16 (pc' := 4) C zo22 dX11_stands_1 rfl ?_
    refine z_iload_n (pc' := 5) C dX11_stands_4 rfl 1 rfl rfl ?_
    obtain ⟨hv1, h⟩ := h
    refine z_zald (n := 24) (pc' := 6) C (zL_mem (by decide) zo25) (fun _ => rfl) hv1 dX11_stands_5 rfl ?_
    obtain ⟨ht, hf⟩ := h
    refine z_if_eq (tgt := 31) (pc' := 9) C dX11_stands_6 (by decide) rfl (fun c2 => ?_) (fun c2 => ?_)
    · have h := ht c2
      refine z_iconst (v := 0) (pc' := 32) C dX11_stands_31 (by decide) rfl ?_
      exact z_zret C rfl dX11_stands_32 h
    · have h := hf c2
      refine z_aload_n (pc' := 10) C dX11_stands_9 rfl 0 rfl rfl ?_
      refine zgX11_29 (pc' := 13) C zo22 dX11_stands_10 rfl ?_
      refine z_iload_n (pc' := 14) C dX11_stands_13 rfl 1 rfl rfl ?_
      obtain ⟨hv3, h⟩ := h
      refine z_zald (n := 24) (pc' := 15) C (zL_mem (by decide) zo29) (fun _ => rfl) hv3 dX11_stands_14 rfl ?_
      obtain ⟨ht, hf⟩ := h
      refine z_if_ne (tgt := 31) (pc' := 18) C dX11_stands_15 (by decide) rfl (fun c4 => ?_) (fun c4 => ?_)
      · have h := ht c4
        refine z_iconst (v := 0) (pc' := 32) C dX11_stands_31 (by decide) rfl ?_
        exact z_zret C rfl dX11_stands_32 h
      · have h := hf c4
        refine z_aload_n (pc' := 19) C dX11_stands_18 rfl 0 rfl rfl ?_
        refine zgX11_13 (pc' := 22) C zo22 dX11_stands_19 rfl ?_
        refine z_iload_n (pc' := 23) C dX11_stands_22 rfl 1 rfl rfl ?_
        obtain ⟨hv5, h⟩ := h
        refine z_iald (n := 24) (pc' := 24) C (zL_mem (by decide) zo24) (fun _ => rfl) hv5 dX11_stands_23 rfl ?_
        obtain ⟨ht, hf⟩ := h
        refine z_if_le (tgt := 31) (pc' := 27) C dX11_stands_24 (by decide) rfl (fun c6 => ?_) (fun c6 => ?_)
        · have h := ht c6
          refine z_iconst (v := 0) (pc' := 32) C dX11_stands_31 (by decide) rfl ?_
          exact z_zret C rfl dX11_stands_32 h
        · have h := hf c6
          refine z_iconst (v := 1) (pc' := 28) C dX11_stands_27 (by decide) rfl ?_
          refine z_goto (tgt := 32) C dX11_stands_28 (by decide) ?_
          exact z_zret C rfl dX11_stands_32 h
  exact fin
def vc_X11_look (σ : zMem) (a0 : Int32) (a1 : Int32) (Q : Int32 → zMem → Prop) : Prop := vc_X11_isPlot σ a0 (fun r2 σ1 => ((¬ r2 = 0) → ((a1 = 0) → vp_in a0 24 ∧ Q (σ1 23 0 a0.toNatClampNeg) σ1) ∧ ((a1 = 1) → vp_in a0 24 ∧ Q (σ1 24 0 a0.toNatClampNeg) σ1) ∧ ((a1 = 2) → vp_in a0 24 ∧ vc_X11_chanceOf σ1 (σ1 23 0 a0.toNatClampNeg) (fun r11 σ10 => Q r11 σ10)) ∧ ((a1 = 3) → vc_X11_hayOf σ1 a0 (fun r14 σ13 => Q r14 σ13)) ∧ ((a1 = 4) → vp_in a0 24 ∧ (((σ1 25 0 a0.toNatClampNeg) = 0) → Q ((-2)) σ1) ∧ ((¬ (σ1 25 0 a0.toNatClampNeg) = 0) → vp_in a0 24 ∧ Q (σ1 26 0 a0.toNatClampNeg) σ1)) ∧ ((a1 = 5) → vp_in a0 24 ∧ (((σ1 25 0 a0.toNatClampNeg) = 0) → Q ((-2)) σ1) ∧ ((¬ (σ1 25 0 a0.toNatClampNeg) = 0) → vp_in a0 24 ∧ Q (σ1 27 0 a0.toNatClampNeg) σ1)) ∧ ((a1 = 6) → vp_in a0 24 ∧ (((σ1 29 0 a0.toNatClampNeg) = 0) → Q ((-2)) σ1) ∧ ((¬ (σ1 29 0 a0.toNatClampNeg) = 0) → vp_in a0 24 ∧ Q (σ1 30 0 a0.toNatClampNeg) σ1)) ∧ ((a1 = 7) → vc_X11_stands σ1 a0 (fun r29 σ28 => ((r29 = 0) → Q 0 σ28) ∧ ((¬ r29 = 0) → Q 1 σ28))) ∧ (¬ a1 = 0 → ¬ a1 = 1 → ¬ a1 = 2 → ¬ a1 = 3 → ¬ a1 = 4 → ¬ a1 = 5 → ¬ a1 = 6 → ¬ a1 = 7 → Q ((-1)) σ1)) ∧ ((r2 = 0) → Q ((-1)) σ1))
set_option maxHeartbeats 4000000 in
set_option maxRecDepth 100000 in
theorem sc_X11_look (l : Launch) (E : zE) (σ : zMem) (a0 : Int32) (a1 : Int32) (Q : Int32 → zMem → Prop) (h : vc_X11_look σ a0 a1 Q) : zMi l yX11_look cX11_look 3 .int 2 42 E [.ref (E.2.2 22 0), .int a0, .int a1] σ Q := by
  refine zMi_of (by decide) (Nat.le_of_ble_eq_true rfl) ?_
  intro p e s m args below meth c C
  unfold vc_X11_look at h
  have fin : zG p l e (zRm 2 42) s m args below meth c 3 E 0 0 (MQ below (va_Qi Q (zPost E) (zA E s.heap.size)) args s 0 0 (zA E s.heap.size)) σ 0 [(0, .ref (E.2.2 22 0)), (1, .int a0), (2, .int a1)] [] := by
    refine z_iload_n (pc' := 1) C dX11_look_0 rfl 1 rfl rfl ?_
    refine z_callSi (pc' := 4) (st := []) (As := [.int a0]) C (sc_X11_isPlot l E σ a0 _ h) zwX11_121_X11_isPlot ztX11_121_X11_isPlot ⟨(Nat.le_of_ble_eq_true rfl), (Nat.le_of_ble_eq_true rfl)⟩ ⟨Nat.zero_le _, Nat.zero_le _⟩ rfl rfl (Nat.le_of_ble_eq_true rfl) dX11_look_1 rfl (fun r2 σ1 h => ?_)
    obtain ⟨ht, hf⟩ := h
    refine z_if_ne (tgt := 9) (pc' := 7) C dX11_look_4 (by decide) rfl (fun c3 => ?_) (fun c3 => ?_)
    · have h := ht c3
      refine z_iload_n (pc' := 10) C dX11_look_9 rfl 2 rfl rfl ?_
      obtain ⟨hk, h⟩ := h
      by_cases c4 : a1 = 0
      · have h := hk c4
        refine z_tabIn (tgt := 56) C dX11_look_10 0 c4 (by decide) (by decide) rfl (by decide) ?_
        refine z_aload_n (pc' := 57) C dX11_look_56 rfl 0 rfl rfl ?_
        refine zgX11_7 (pc' := 60) C zo22 dX11_look_57 rfl ?_
        refine z_iload_n (pc' := 61) C dX11_look_60 rfl 1 rfl rfl ?_
        obtain ⟨hv5, h⟩ := h
        refine z_iald (n := 24) (pc' := 62) C (zL_mem (by decide) zo23) (fun _ => rfl) hv5 dX11_look_61 rfl ?_
        exact z_iret C dX11_look_62 h
      obtain ⟨hk, h⟩ := h
      by_cases c6 : a1 = 1
      · have h := hk c6
        refine z_tabIn (tgt := 63) C dX11_look_10 1 c6 (by decide) (by decide) rfl (by decide) ?_
        refine z_aload_n (pc' := 64) C dX11_look_63 rfl 0 rfl rfl ?_
        refine zgX11_13 (pc' := 67) C zo22 dX11_look_64 rfl ?_
        refine z_iload_n (pc' := 68) C dX11_look_67 rfl 1 rfl rfl ?_
        obtain ⟨hv7, h⟩ := h
        refine z_iald (n := 24) (pc' := 69) C (zL_mem (by decide) zo24) (fun _ => rfl) hv7 dX11_look_68 rfl ?_
        exact z_iret C dX11_look_69 h
      obtain ⟨hk, h⟩ := h
      by_cases c8 : a1 = 2
      · have h := hk c8
        refine z_tabIn (tgt := 70) C dX11_look_10 2 c8 (by decide) (by decide) rfl (by decide) ?_
        refine z_aload_n (pc' := 71) C dX11_look_70 rfl 0 rfl rfl ?_
        refine zgX11_7 (pc' := 74) C zo22 dX11_look_71 rfl ?_
        refine z_iload_n (pc' := 75) C dX11_look_74 rfl 1 rfl rfl ?_
        obtain ⟨hv9, h⟩ := h
        refine z_iald (n := 24) (pc' := 76) C (zL_mem (by decide) zo23) (fun _ => rfl) hv9 dX11_look_75 rfl ?_
        refine z_callSi (pc' := 79) (st := []) (As := [.int (σ1 23 0 a0.toNatClampNeg)]) C (sc_X11_chanceOf l E σ1 (σ1 23 0 a0.toNatClampNeg) _ h) zwX11_129_X11_chanceOf ztX11_129_X11_chanceOf ⟨(Nat.le_of_ble_eq_true rfl), (Nat.le_of_ble_eq_true rfl)⟩ ⟨Nat.zero_le _, Nat.zero_le _⟩ rfl rfl (Nat.le_of_ble_eq_true rfl) dX11_look_76 rfl (fun r11 σ10 h => ?_)
        exact z_iret C dX11_look_79 h
      obtain ⟨hk, h⟩ := h
      by_cases c12 : a1 = 3
      · have h := hk c12
        refine z_tabIn (tgt := 80) C dX11_look_10 3 c12 (by decide) (by decide) rfl (by decide) ?_
        refine z_aload_n (pc' := 81) C dX11_look_80 rfl 0 rfl rfl ?_
        refine z_iload_n (pc' := 82) C dX11_look_81 rfl 1 rfl rfl ?_
        refine z_callVi (q := 22) (i := 0) (w9 := (RX11, TX11, 40)) (pc' := 85) (st := []) (As := [.int a0]) C (sc_X11_hayOf l E σ1 a0 _ h) zwX11_133_X11_hayOf zvX11_133_X11_hayOf.1 zvX11_133_X11_hayOf.2 (zL_mem (by decide) zo22) rfl rfl ⟨(Nat.le_of_ble_eq_true rfl), (Nat.le_of_ble_eq_true rfl)⟩ ⟨Nat.zero_le _, Nat.zero_le _⟩ rfl rfl (Nat.le_of_ble_eq_true rfl) dX11_look_82 rfl (fun r14 σ13 h => ?_)
        exact z_iret C dX11_look_85 h
      obtain ⟨hk, h⟩ := h
      by_cases c15 : a1 = 4
      · have h := hk c15
        refine z_tabIn (tgt := 86) C dX11_look_10 4 c15 (by decide) (by decide) rfl (by decide) ?_
        refine z_aload_n (pc' := 87) C dX11_look_86 rfl 0 rfl rfl ?_
        refine zgX11_16 (pc' := 90) C zo22 dX11_look_87 rfl ?_
        refine z_iload_n (pc' := 91) C dX11_look_90 rfl 1 rfl rfl ?_
        obtain ⟨hv16, h⟩ := h
        refine z_zald (n := 24) (pc' := 92) C (zL_mem (by decide) zo25) (fun _ => rfl) hv16 dX11_look_91 rfl ?_
        obtain ⟨ht, hf⟩ := h
        refine z_if_eq (tgt := 104) (pc' := 95) C dX11_look_92 (by decide) rfl (fun c17 => ?_) (fun c17 => ?_)
        · have h := ht c17
          refine z_bipush (v := (-2)) (pc' := 106) C dX11_look_104 (by decide) rfl ?_
          exact z_iret C dX11_look_106 h
        · have h := hf c17
          refine z_aload_n (pc' := 96) C dX11_look_95 rfl 0 rfl rfl ?_
          refine zgX11_20 (pc' := 99) C zo22 dX11_look_96 rfl ?_
          refine z_iload_n (pc' := 100) C dX11_look_99 rfl 1 rfl rfl ?_
          obtain ⟨hv18, h⟩ := h
          refine z_iald (n := 24) (pc' := 101) C (zL_mem (by decide) zo26) (fun _ => rfl) hv18 dX11_look_100 rfl ?_
          refine z_goto (tgt := 106) C dX11_look_101 (by decide) ?_
          exact z_iret C dX11_look_106 h
      obtain ⟨hk, h⟩ := h
      by_cases c19 : a1 = 5
      · have h := hk c19
        refine z_tabIn (tgt := 107) C dX11_look_10 5 c19 (by decide) (by decide) rfl (by decide) ?_
        refine z_aload_n (pc' := 108) C dX11_look_107 rfl 0 rfl rfl ?_
        refine zgX11_16 (pc' := 111) C zo22 dX11_look_108 rfl ?_
        refine z_iload_n (pc' := 112) C dX11_look_111 rfl 1 rfl rfl ?_
        obtain ⟨hv20, h⟩ := h
        refine z_zald (n := 24) (pc' := 113) C (zL_mem (by decide) zo25) (fun _ => rfl) hv20 dX11_look_112 rfl ?_
        obtain ⟨ht, hf⟩ := h
        refine z_if_eq (tgt := 125) (pc' := 116) C dX11_look_113 (by decide) rfl (fun c21 => ?_) (fun c21 => ?_)
        · have h := ht c21
          refine z_bipush (v := (-2)) (pc' := 127) C dX11_look_125 (by decide) rfl ?_
          exact z_iret C dX11_look_127 h
        · have h := hf c21
          refine z_aload_n (pc' := 117) C dX11_look_116 rfl 0 rfl rfl ?_
          refine zgX11_23 (pc' := 120) C zo22 dX11_look_117 rfl ?_
          refine z_iload_n (pc' := 121) C dX11_look_120 rfl 1 rfl rfl ?_
          obtain ⟨hv22, h⟩ := h
          refine z_iald (n := 24) (pc' := 122) C (zL_mem (by decide) zo27) (fun _ => rfl) hv22 dX11_look_121 rfl ?_
          refine z_goto (tgt := 127) C dX11_look_122 (by decide) ?_
          exact z_iret C dX11_look_127 h
      obtain ⟨hk, h⟩ := h
      by_cases c23 : a1 = 6
      · have h := hk c23
        refine z_tabIn (tgt := 128) C dX11_look_10 6 c23 (by decide) (by decide) rfl (by decide) ?_
        refine z_aload_n (pc' := 129) C dX11_look_128 rfl 0 rfl rfl ?_
        refine zgX11_29 (pc' := 132) C zo22 dX11_look_129 rfl ?_
        refine z_iload_n (pc' := 133) C dX11_look_132 rfl 1 rfl rfl ?_
        obtain ⟨hv24, h⟩ := h
        refine z_zald (n := 24) (pc' := 134) C (zL_mem (by decide) zo29) (fun _ => rfl) hv24 dX11_look_133 rfl ?_
        obtain ⟨ht, hf⟩ := h
        refine z_if_eq (tgt := 146) (pc' := 137) C dX11_look_134 (by decide) rfl (fun c25 => ?_) (fun c25 => ?_)
        · have h := ht c25
          refine z_bipush (v := (-2)) (pc' := 148) C dX11_look_146 (by decide) rfl ?_
          exact z_iret C dX11_look_148 h
        · have h := hf c25
          refine z_aload_n (pc' := 138) C dX11_look_137 rfl 0 rfl rfl ?_
          refine zgX11_32 (pc' := 141) C zo22 dX11_look_138 rfl ?_
          refine z_iload_n (pc' := 142) C dX11_look_141 rfl 1 rfl rfl ?_
          obtain ⟨hv26, h⟩ := h
          refine z_iald (n := 24) (pc' := 143) C (zL_mem (by decide) zo30) (fun _ => rfl) hv26 dX11_look_142 rfl ?_
          refine z_goto (tgt := 148) C dX11_look_143 (by decide) ?_
          exact z_iret C dX11_look_148 h
      obtain ⟨hk, h⟩ := h
      by_cases c27 : a1 = 7
      · have h := hk c27
        refine z_tabIn (tgt := 149) C dX11_look_10 7 c27 (by decide) (by decide) rfl (by decide) ?_
        refine z_aload_n (pc' := 150) C dX11_look_149 rfl 0 rfl rfl ?_
        refine z_iload_n (pc' := 151) C dX11_look_150 rfl 1 rfl rfl ?_
        refine z_callVi (q := 22) (i := 0) (w9 := (RX11, TX11, 40)) (pc' := 154) (st := []) (As := [.int a0]) C (sc_X11_stands l E σ1 a0 _ h) zwX11_136_X11_stands zvX11_136_X11_stands.1 zvX11_136_X11_stands.2 (zL_mem (by decide) zo22) rfl rfl ⟨(Nat.le_of_ble_eq_true rfl), (Nat.le_of_ble_eq_true rfl)⟩ ⟨Nat.zero_le _, Nat.zero_le _⟩ rfl rfl (Nat.le_of_ble_eq_true rfl) dX11_look_151 rfl (fun r29 σ28 h => ?_)
        obtain ⟨ht, hf⟩ := h
        refine z_if_eq (tgt := 161) (pc' := 157) C dX11_look_154 (by decide) rfl (fun c30 => ?_) (fun c30 => ?_)
        · have h := ht c30
          refine z_iconst (v := 0) (pc' := 162) C dX11_look_161 (by decide) rfl ?_
          exact z_iret C dX11_look_162 h
        · have h := hf c30
          refine z_iconst (v := 1) (pc' := 158) C dX11_look_157 (by decide) rfl ?_
          refine z_goto (tgt := 162) C dX11_look_158 (by decide) ?_
          exact z_iret C dX11_look_162 h
      have h := h c4 c6 c8 c12 c15 c19 c23 c27
      refine z_tabOut (tgt := 163) C dX11_look_10 (by have ec4 := lv_neT (a := 0) c4 rfl; have ec6 := lv_neT (a := 1) c6 rfl; have ec8 := lv_neT (a := 2) c8 rfl; have ec12 := lv_neT (a := 3) c12 rfl; have ec15 := lv_neT (a := 4) c15 rfl; have ec19 := lv_neT (a := 5) c19 rfl; have ec23 := lv_neT (a := 6) c23 rfl; have ec27 := lv_neT (a := 7) c27 rfl; omega) (by decide) ?_
      refine z_iconst (v := (-1)) (pc' := 164) C dX11_look_163 (by decide) rfl ?_
      exact z_iret C dX11_look_164 h
    · have h := hf c3
      refine z_iconst (v := (-1)) (pc' := 8) C dX11_look_7 (by decide) rfl ?_
      exact z_iret C dX11_look_8 h
  exact fin
def vc_X11_has (σ : zMem) (a0 : Int32) (a1 : Int32) (Q : Int32 → zMem → Prop) : Prop := vp_in a1 24 ∧ (((σ 25 0 a1.toNatClampNeg) = 0) → Q 0 σ) ∧ ((¬ (σ 25 0 a1.toNatClampNeg) = 0) → vp_in a1 24 ∧ ((¬ (σ 26 0 a1.toNatClampNeg) = a0) → Q 0 σ) ∧ (((σ 26 0 a1.toNatClampNeg) = a0) → Q 1 σ))
set_option maxHeartbeats 4000000 in
set_option maxRecDepth 100000 in
theorem sc_X11_has (l : Launch) (E : zE) (σ : zMem) (a0 : Int32) (a1 : Int32) (Q : Int32 → zMem → Prop) (h : vc_X11_has σ a0 a1 Q) : zMi l yX11_has cX11_has 3 .boolean 0 0 E [.ref (E.2.2 22 0), .int a0, .int a1] σ Q := by
  refine zMi_of (by decide) (Nat.le_of_ble_eq_true rfl) ?_
  intro p e s m args below meth c C
  unfold vc_X11_has at h
  have fin : zG p l e (zRm 0 0) s m args below meth c 3 E 0 0 (MQ below (va_Qi Q (zPost E) (zA E s.heap.size)) args s 0 0 (zA E s.heap.size)) σ 0 [(0, .ref (E.2.2 22 0)), (1, .int a0), (2, .int a1)] [] := by
    refine z_aload_n (pc' := 1) C dX11_has_0 rfl 0 rfl rfl ?_
    refine zgX11_16 (pc' := 4) C zo22 dX11_has_1 rfl ?_
    refine z_iload_n (pc' := 5) C dX11_has_4 rfl 2 rfl rfl ?_
    obtain ⟨hv1, h⟩ := h
    refine z_zald (n := 24) (pc' := 6) C (zL_mem (by decide) zo25) (fun _ => rfl) hv1 dX11_has_5 rfl ?_
    obtain ⟨ht, hf⟩ := h
    refine z_if_eq (tgt := 23) (pc' := 9) C dX11_has_6 (by decide) rfl (fun c2 => ?_) (fun c2 => ?_)
    · have h := ht c2
      refine z_iconst (v := 0) (pc' := 24) C dX11_has_23 (by decide) rfl ?_
      exact z_zret C rfl dX11_has_24 h
    · have h := hf c2
      refine z_aload_n (pc' := 10) C dX11_has_9 rfl 0 rfl rfl ?_
      refine zgX11_20 (pc' := 13) C zo22 dX11_has_10 rfl ?_
      refine z_iload_n (pc' := 14) C dX11_has_13 rfl 2 rfl rfl ?_
      obtain ⟨hv3, h⟩ := h
      refine z_iald (n := 24) (pc' := 15) C (zL_mem (by decide) zo26) (fun _ => rfl) hv3 dX11_has_14 rfl ?_
      refine z_iload_n (pc' := 16) C dX11_has_15 rfl 1 rfl rfl ?_
      obtain ⟨ht, hf⟩ := h
      refine z_icmp_ne (tgt := 23) (pc' := 19) C dX11_has_16 (by decide) rfl (fun c4 => ?_) (fun c4 => ?_)
      · have h := ht c4
        refine z_iconst (v := 0) (pc' := 24) C dX11_has_23 (by decide) rfl ?_
        exact z_zret C rfl dX11_has_24 h
      · have h := hf c4
        refine z_iconst (v := 1) (pc' := 20) C dX11_has_19 (by decide) rfl ?_
        refine z_goto (tgt := 24) C dX11_has_20 (by decide) ?_
        exact z_zret C rfl dX11_has_24 h
  exact fin
def vc_X11_hayHeld_4 (x1 : Int32) (Q : Int32 → zMem → Prop) : Nat → zMem → Int32 → Int32 → Prop
  | 0, _, _, _ => False
  | n + 1, σ, x2, x3 => ((24 ≤ x3) → Q x2 σ) ∧ ((¬ 24 ≤ x3) → vc_X11_has σ x1 x3 (fun r4 σ3 => ((r4 = 0) → vc_X11_hayHeld_4 x1 Q n σ3 (x2 + 0) (x3 + 1)) ∧ ((¬ r4 = 0) → vc_X11_hayOf σ3 x3 (fun r7 σ6 => vc_X11_hayHeld_4 x1 Q n σ6 (x2 + r7) (x3 + 1)))))
def vc_X11_hayHeld (σ : zMem) (a0 : Int32) (Q : Int32 → zMem → Prop) : Prop := ∃ n1, vc_X11_hayHeld_4 a0 Q n1 σ 0 0
set_option maxHeartbeats 4000000 in
set_option maxRecDepth 100000 in
theorem sl_X11_hayHeld_4 {p : Program} {l : Launch} {e : Env} {s : State} {m : MethodId} {args : Array Value} {below : List Frame} {meth : Method} {c : Code} {E : zE} (C : zX p s m args meth c cX11_hayHeld 4 RX11 (some .int) E) (x1 : Int32) (Q : Int32 → zMem → Prop) : ∀ (n : Nat) (σ : zMem) (x2 : Int32) (x3 : Int32), vc_X11_hayHeld_4 x1 Q n σ x2 x3 → zG p l e (zRm 2 41) s m args below meth c 4 E 0 0 (MQ below (va_Qi Q (zPost E) (zA E s.heap.size)) args s 0 0 (zA E s.heap.size)) σ 4 [(0, .ref (E.2.2 22 0)), (1, .int x1), (2, .int x2), (3, .int x3)] [] := by
  intro n
  induction n with
  | zero =>
    intro σ x2 x3 h
    exact False.elim h
  | succ n ih =>
    intro σ x2 x3 h
    rw [vc_X11_hayHeld_4] at h
    refine z_iload_n (pc' := 5) C dX11_hayHeld_4 rfl 3 rfl rfl ?_
    refine z_bipush (v := 24) (pc' := 7) C dX11_hayHeld_5 (by decide) rfl ?_
    obtain ⟨ht, hf⟩ := h
    refine z_icmp_ge (tgt := 37) (pc' := 10) C dX11_hayHeld_7 (by decide) rfl (fun c2 => ?_) (fun c2 => ?_)
    · have h := ht c2
      refine z_iload_n (pc' := 38) C dX11_hayHeld_37 rfl 2 rfl rfl ?_
      exact z_iret C dX11_hayHeld_38 h
    · have h := hf c2
      refine z_iload_n (pc' := 11) C dX11_hayHeld_10 rfl 2 rfl rfl ?_
      refine z_aload_n (pc' := 12) C dX11_hayHeld_11 rfl 0 rfl rfl ?_
      refine z_iload_n (pc' := 13) C dX11_hayHeld_12 rfl 1 rfl rfl ?_
      refine z_iload_n (pc' := 14) C dX11_hayHeld_13 rfl 3 rfl rfl ?_
      refine z_callVi (q := 22) (i := 0) (w9 := (RX11, TX11, 40)) (pc' := 17) (st := [.int x2]) (As := [.int x1, .int x3]) C (sc_X11_has l E σ x1 x3 _ h) zwX11_139_X11_has zvX11_139_X11_has.1 zvX11_139_X11_has.2 (zL_mem (by decide) zo22) rfl rfl ⟨(Nat.le_of_ble_eq_true rfl), (Nat.le_of_ble_eq_true rfl)⟩ ⟨Nat.zero_le _, Nat.zero_le _⟩ rfl rfl (Nat.le_of_ble_eq_true rfl) dX11_hayHeld_14 rfl (fun r4 σ3 h => ?_)
      obtain ⟨ht, hf⟩ := h
      refine z_if_eq (tgt := 28) (pc' := 20) C dX11_hayHeld_17 (by decide) rfl (fun c5 => ?_) (fun c5 => ?_)
      · have h := ht c5
        refine z_iconst (v := 0) (pc' := 29) C dX11_hayHeld_28 (by decide) rfl ?_
        refine z_iadd (pc' := 30) C dX11_hayHeld_29 rfl ?_
        refine z_istore_n (pc' := 31) (lv' := [(2, .int (x2 + 0)), (0, .ref (E.2.2 22 0)), (1, .int x1), (3, .int x3)]) C dX11_hayHeld_30 rfl (by decide) rfl rfl ?_
        refine z_iinc (j := 3) (v := x3 + 1) (pc' := 34) (lv' := [(3, .int (x3 + 1)), (2, .int (x2 + 0)), (0, .ref (E.2.2 22 0)), (1, .int x1)]) C dX11_hayHeld_31 rfl rfl (by decide) rfl rfl ?_
        refine z_goto (tgt := 4) C dX11_hayHeld_34 (by decide) ?_
        refine z_sub (lv' := [(0, .ref (E.2.2 22 0)), (1, .int x1), (2, .int (x2 + 0)), (3, .int (x3 + 1))]) [2, 3, 1, 0] rfl ?_
        exact ih _ _ _ h
      · have h := hf c5
        refine z_aload_n (pc' := 21) C dX11_hayHeld_20 rfl 0 rfl rfl ?_
        refine z_iload_n (pc' := 22) C dX11_hayHeld_21 rfl 3 rfl rfl ?_
        refine z_callVi (q := 22) (i := 0) (w9 := (RX11, TX11, 40)) (pc' := 25) (st := [.int x2]) (As := [.int x3]) C (sc_X11_hayOf l E σ3 x3 _ h) zwX11_133_X11_hayOf zvX11_133_X11_hayOf.1 zvX11_133_X11_hayOf.2 (zL_mem (by decide) zo22) rfl rfl ⟨(Nat.le_of_ble_eq_true rfl), (Nat.le_of_ble_eq_true rfl)⟩ ⟨Nat.zero_le _, Nat.zero_le _⟩ rfl rfl (Nat.le_of_ble_eq_true rfl) dX11_hayHeld_22 rfl (fun r7 σ6 h => ?_)
        refine z_goto (tgt := 29) C dX11_hayHeld_25 (by decide) ?_
        refine z_iadd (pc' := 30) C dX11_hayHeld_29 rfl ?_
        refine z_istore_n (pc' := 31) (lv' := [(2, .int (x2 + r7)), (0, .ref (E.2.2 22 0)), (1, .int x1), (3, .int x3)]) C dX11_hayHeld_30 rfl (by decide) rfl rfl ?_
        refine z_iinc (j := 3) (v := x3 + 1) (pc' := 34) (lv' := [(3, .int (x3 + 1)), (2, .int (x2 + r7)), (0, .ref (E.2.2 22 0)), (1, .int x1)]) C dX11_hayHeld_31 rfl rfl (by decide) rfl rfl ?_
        refine z_goto (tgt := 4) C dX11_hayHeld_34 (by decide) ?_
        refine z_sub (lv' := [(0, .ref (E.2.2 22 0)), (1, .int x1), (2, .int (x2 + r7)), (3, .int (x3 + 1))]) [2, 3, 1, 0] rfl ?_
        exact ih _ _ _ h
set_option maxHeartbeats 4000000 in
set_option maxRecDepth 100000 in
theorem sc_X11_hayHeld (l : Launch) (E : zE) (σ : zMem) (a0 : Int32) (Q : Int32 → zMem → Prop) (h : vc_X11_hayHeld σ a0 Q) : zMi l yX11_hayHeld cX11_hayHeld 4 .int 2 41 E [.ref (E.2.2 22 0), .int a0] σ Q := by
  refine zMi_of (by decide) (Nat.le_of_ble_eq_true rfl) ?_
  intro p e s m args below meth c C
  unfold vc_X11_hayHeld at h
  have fin : zG p l e (zRm 2 41) s m args below meth c 4 E 0 0 (MQ below (va_Qi Q (zPost E) (zA E s.heap.size)) args s 0 0 (zA E s.heap.size)) σ 0 [(0, .ref (E.2.2 22 0)), (1, .int a0)] [] := by
    refine z_iconst (v := 0) (pc' := 1) C dX11_hayHeld_0 (by decide) rfl ?_
    refine z_istore_n (pc' := 2) (lv' := [(2, .int 0), (0, .ref (E.2.2 22 0)), (1, .int a0)]) C dX11_hayHeld_1 rfl (by decide) rfl rfl ?_
    refine z_iconst (v := 0) (pc' := 3) C dX11_hayHeld_2 (by decide) rfl ?_
    refine z_istore_n (pc' := 4) (lv' := [(3, .int 0), (2, .int 0), (0, .ref (E.2.2 22 0)), (1, .int a0)]) C dX11_hayHeld_3 rfl (by decide) rfl rfl ?_
    obtain ⟨n1, h⟩ := h
    refine z_sub (lv' := [(0, .ref (E.2.2 22 0)), (1, .int a0), (2, .int 0), (3, .int 0)]) [2, 3, 1, 0] rfl ?_
    exact sl_X11_hayHeld_4 C a0 Q n1 _ _ _ h
  exact fin
def vc_X11_debt_4 (x1 : Int32) (Q : Int32 → zMem → Prop) : Nat → zMem → Int32 → Int32 → Prop
  | 0, _, _, _ => False
  | n + 1, σ, x2, x3 => ((24 ≤ x3) → Q x2 σ) ∧ ((¬ 24 ≤ x3) → vc_X11_has σ x1 x3 (fun r4 σ3 => ((r4 = 0) → vc_X11_debt_4 x1 Q n σ3 (x2 + 0) (x3 + 1)) ∧ ((¬ r4 = 0) → vp_in x3 24 ∧ vc_X11_debt_4 x1 Q n σ3 (x2 + (σ3 27 0 x3.toNatClampNeg)) (x3 + 1))))
def vc_X11_debt (σ : zMem) (a0 : Int32) (Q : Int32 → zMem → Prop) : Prop := ∃ n1, vc_X11_debt_4 a0 Q n1 σ 0 0
set_option maxHeartbeats 4000000 in
set_option maxRecDepth 100000 in
theorem sl_X11_debt_4 {p : Program} {l : Launch} {e : Env} {s : State} {m : MethodId} {args : Array Value} {below : List Frame} {meth : Method} {c : Code} {E : zE} (C : zX p s m args meth c cX11_debt 4 RX11 (some .int) E) (x1 : Int32) (Q : Int32 → zMem → Prop) : ∀ (n : Nat) (σ : zMem) (x2 : Int32) (x3 : Int32), vc_X11_debt_4 x1 Q n σ x2 x3 → zG p l e (zRm 1 22) s m args below meth c 4 E 0 0 (MQ below (va_Qi Q (zPost E) (zA E s.heap.size)) args s 0 0 (zA E s.heap.size)) σ 4 [(0, .ref (E.2.2 22 0)), (1, .int x1), (2, .int x2), (3, .int x3)] [] := by
  intro n
  induction n with
  | zero =>
    intro σ x2 x3 h
    exact False.elim h
  | succ n ih =>
    intro σ x2 x3 h
    rw [vc_X11_debt_4] at h
    refine z_iload_n (pc' := 5) C dX11_debt_4 rfl 3 rfl rfl ?_
    refine z_bipush (v := 24) (pc' := 7) C dX11_debt_5 (by decide) rfl ?_
    obtain ⟨ht, hf⟩ := h
    refine z_icmp_ge (tgt := 38) (pc' := 10) C dX11_debt_7 (by decide) rfl (fun c2 => ?_) (fun c2 => ?_)
    · have h := ht c2
      refine z_iload_n (pc' := 39) C dX11_debt_38 rfl 2 rfl rfl ?_
      exact z_iret C dX11_debt_39 h
    · have h := hf c2
      refine z_iload_n (pc' := 11) C dX11_debt_10 rfl 2 rfl rfl ?_
      refine z_aload_n (pc' := 12) C dX11_debt_11 rfl 0 rfl rfl ?_
      refine z_iload_n (pc' := 13) C dX11_debt_12 rfl 1 rfl rfl ?_
      refine z_iload_n (pc' := 14) C dX11_debt_13 rfl 3 rfl rfl ?_
      refine z_callVi (q := 22) (i := 0) (w9 := (RX11, TX11, 40)) (pc' := 17) (st := [.int x2]) (As := [.int x1, .int x3]) C (sc_X11_has l E σ x1 x3 _ h) zwX11_139_X11_has zvX11_139_X11_has.1 zvX11_139_X11_has.2 (zL_mem (by decide) zo22) rfl rfl ⟨(Nat.le_of_ble_eq_true rfl), (Nat.le_of_ble_eq_true rfl)⟩ ⟨Nat.zero_le _, Nat.zero_le _⟩ rfl rfl (Nat.le_of_ble_eq_true rfl) dX11_debt_14 rfl (fun r4 σ3 h => ?_)
      obtain ⟨ht, hf⟩ := h
      refine z_if_eq (tgt := 29) (pc' := 20) C dX11_debt_17 (by decide) rfl (fun c5 => ?_) (fun c5 => ?_)
      · have h := ht c5
        refine z_iconst (v := 0) (pc' := 30) C dX11_debt_29 (by decide) rfl ?_
        refine z_iadd (pc' := 31) C dX11_debt_30 rfl ?_
        refine z_istore_n (pc' := 32) (lv' := [(2, .int (x2 + 0)), (0, .ref (E.2.2 22 0)), (1, .int x1), (3, .int x3)]) C dX11_debt_31 rfl (by decide) rfl rfl ?_
        refine z_iinc (j := 3) (v := x3 + 1) (pc' := 35) (lv' := [(3, .int (x3 + 1)), (2, .int (x2 + 0)), (0, .ref (E.2.2 22 0)), (1, .int x1)]) C dX11_debt_32 rfl rfl (by decide) rfl rfl ?_
        refine z_goto (tgt := 4) C dX11_debt_35 (by decide) ?_
        refine z_sub (lv' := [(0, .ref (E.2.2 22 0)), (1, .int x1), (2, .int (x2 + 0)), (3, .int (x3 + 1))]) [2, 3, 1, 0] rfl ?_
        exact ih _ _ _ h
      · have h := hf c5
        refine z_aload_n (pc' := 21) C dX11_debt_20 rfl 0 rfl rfl ?_
        refine zgX11_23 (pc' := 24) C zo22 dX11_debt_21 rfl ?_
        refine z_iload_n (pc' := 25) C dX11_debt_24 rfl 3 rfl rfl ?_
        obtain ⟨hv6, h⟩ := h
        refine z_iald (n := 24) (pc' := 26) C (zL_mem (by decide) zo27) (fun _ => rfl) hv6 dX11_debt_25 rfl ?_
        refine z_goto (tgt := 30) C dX11_debt_26 (by decide) ?_
        refine z_iadd (pc' := 31) C dX11_debt_30 rfl ?_
        refine z_istore_n (pc' := 32) (lv' := [(2, .int (x2 + (σ3 27 0 x3.toNatClampNeg))), (0, .ref (E.2.2 22 0)), (1, .int x1), (3, .int x3)]) C dX11_debt_31 rfl (by decide) rfl rfl ?_
        refine z_iinc (j := 3) (v := x3 + 1) (pc' := 35) (lv' := [(3, .int (x3 + 1)), (2, .int (x2 + (σ3 27 0 x3.toNatClampNeg))), (0, .ref (E.2.2 22 0)), (1, .int x1)]) C dX11_debt_32 rfl rfl (by decide) rfl rfl ?_
        refine z_goto (tgt := 4) C dX11_debt_35 (by decide) ?_
        refine z_sub (lv' := [(0, .ref (E.2.2 22 0)), (1, .int x1), (2, .int (x2 + (σ3 27 0 x3.toNatClampNeg))), (3, .int (x3 + 1))]) [2, 3, 1, 0] rfl ?_
        exact ih _ _ _ h
set_option maxHeartbeats 4000000 in
set_option maxRecDepth 100000 in
theorem sc_X11_debt (l : Launch) (E : zE) (σ : zMem) (a0 : Int32) (Q : Int32 → zMem → Prop) (h : vc_X11_debt σ a0 Q) : zMi l yX11_debt cX11_debt 4 .int 1 22 E [.ref (E.2.2 22 0), .int a0] σ Q := by
  refine zMi_of (by decide) (Nat.le_of_ble_eq_true rfl) ?_
  intro p e s m args below meth c C
  unfold vc_X11_debt at h
  have fin : zG p l e (zRm 1 22) s m args below meth c 4 E 0 0 (MQ below (va_Qi Q (zPost E) (zA E s.heap.size)) args s 0 0 (zA E s.heap.size)) σ 0 [(0, .ref (E.2.2 22 0)), (1, .int a0)] [] := by
    refine z_iconst (v := 0) (pc' := 1) C dX11_debt_0 (by decide) rfl ?_
    refine z_istore_n (pc' := 2) (lv' := [(2, .int 0), (0, .ref (E.2.2 22 0)), (1, .int a0)]) C dX11_debt_1 rfl (by decide) rfl rfl ?_
    refine z_iconst (v := 0) (pc' := 3) C dX11_debt_2 (by decide) rfl ?_
    refine z_istore_n (pc' := 4) (lv' := [(3, .int 0), (2, .int 0), (0, .ref (E.2.2 22 0)), (1, .int a0)]) C dX11_debt_3 rfl (by decide) rfl rfl ?_
    obtain ⟨n1, h⟩ := h
    refine z_sub (lv' := [(0, .ref (E.2.2 22 0)), (1, .int a0), (2, .int 0), (3, .int 0)]) [2, 3, 1, 0] rfl ?_
    exact sl_X11_debt_4 C a0 Q n1 _ _ _ h
  exact fin
def vc_X11_about (σ : zMem) (a0 : Int32) (a1 : Int32) (Q : Int32 → zMem → Prop) : Prop := vc_X11_isBuyer σ a0 (fun r2 σ1 => ((¬ r2 = 0) → ((a1 = 0) → vp_in a0 10 ∧ Q (σ1 31 0 a0.toNatClampNeg) σ1) ∧ ((a1 = 1) → vp_in a0 10 ∧ Q (σ1 32 0 a0.toNatClampNeg) σ1) ∧ ((a1 = 2) → vp_in a0 10 ∧ Q (σ1 33 0 a0.toNatClampNeg) σ1) ∧ ((a1 = 3) → vp_in a0 10 ∧ Q (12 * (σ1 31 0 a0.toNatClampNeg)) σ1) ∧ ((a1 = 4) → vc_X11_hayHeld σ1 a0 (fun r14 σ13 => Q r14 σ13)) ∧ ((a1 = 5) → vc_X11_debt σ1 a0 (fun r17 σ16 => Q r17 σ16)) ∧ ((a1 = 6) → vp_in a0 10 ∧ Q (σ1 36 0 a0.toNatClampNeg) σ1) ∧ ((a1 = 7) → vp_in a0 10 ∧ (((σ1 34 0 a0.toNatClampNeg) = 0) → Q 0 σ1) ∧ ((¬ (σ1 34 0 a0.toNatClampNeg) = 0) → Q 1 σ1)) ∧ (¬ a1 = 0 → ¬ a1 = 1 → ¬ a1 = 2 → ¬ a1 = 3 → ¬ a1 = 4 → ¬ a1 = 5 → ¬ a1 = 6 → ¬ a1 = 7 → Q ((-1)) σ1)) ∧ ((r2 = 0) → Q ((-1)) σ1))
set_option maxHeartbeats 4000000 in
set_option maxRecDepth 100000 in
theorem sc_X11_about (l : Launch) (E : zE) (σ : zMem) (a0 : Int32) (a1 : Int32) (Q : Int32 → zMem → Prop) (h : vc_X11_about σ a0 a1 Q) : zMi l yX11_about cX11_about 3 .int 3 64 E [.ref (E.2.2 22 0), .int a0, .int a1] σ Q := by
  refine zMi_of (by decide) (Nat.le_of_ble_eq_true rfl) ?_
  intro p e s m args below meth c C
  unfold vc_X11_about at h
  have fin : zG p l e (zRm 3 64) s m args below meth c 3 E 0 0 (MQ below (va_Qi Q (zPost E) (zA E s.heap.size)) args s 0 0 (zA E s.heap.size)) σ 0 [(0, .ref (E.2.2 22 0)), (1, .int a0), (2, .int a1)] [] := by
    refine z_aload_n (pc' := 1) C dX11_about_0 rfl 0 rfl rfl ?_
    refine z_iload_n (pc' := 2) C dX11_about_1 rfl 1 rfl rfl ?_
    refine z_callVi (q := 22) (i := 0) (w9 := (RX11, TX11, 40)) (pc' := 5) (st := []) (As := [.int a0]) C (sc_X11_isBuyer l E σ a0 _ h) zwX11_126_X11_isBuyer zvX11_126_X11_isBuyer.1 zvX11_126_X11_isBuyer.2 (zL_mem (by decide) zo22) rfl rfl ⟨(Nat.le_of_ble_eq_true rfl), (Nat.le_of_ble_eq_true rfl)⟩ ⟨Nat.zero_le _, Nat.zero_le _⟩ rfl rfl (Nat.le_of_ble_eq_true rfl) dX11_about_2 rfl (fun r2 σ1 h => ?_)
    obtain ⟨ht, hf⟩ := h
    refine z_if_ne (tgt := 10) (pc' := 8) C dX11_about_5 (by decide) rfl (fun c3 => ?_) (fun c3 => ?_)
    · have h := ht c3
      refine z_iload_n (pc' := 11) C dX11_about_10 rfl 2 rfl rfl ?_
      obtain ⟨hk, h⟩ := h
      by_cases c4 : a1 = 0
      · have h := hk c4
        refine z_tabIn (tgt := 56) C dX11_about_11 0 c4 (by decide) (by decide) rfl (by decide) ?_
        refine z_aload_n (pc' := 57) C dX11_about_56 rfl 0 rfl rfl ?_
        refine zgX11_35 (pc' := 60) C zo22 dX11_about_57 rfl ?_
        refine z_iload_n (pc' := 61) C dX11_about_60 rfl 1 rfl rfl ?_
        obtain ⟨hv5, h⟩ := h
        refine z_iald (n := 10) (pc' := 62) C (zL_mem (by decide) zo31) (fun _ => rfl) hv5 dX11_about_61 rfl ?_
        exact z_iret C dX11_about_62 h
      obtain ⟨hk, h⟩ := h
      by_cases c6 : a1 = 1
      · have h := hk c6
        refine z_tabIn (tgt := 63) C dX11_about_11 1 c6 (by decide) (by decide) rfl (by decide) ?_
        refine z_aload_n (pc' := 64) C dX11_about_63 rfl 0 rfl rfl ?_
        refine zgX11_38 (pc' := 67) C zo22 dX11_about_64 rfl ?_
        refine z_iload_n (pc' := 68) C dX11_about_67 rfl 1 rfl rfl ?_
        obtain ⟨hv7, h⟩ := h
        refine z_iald (n := 10) (pc' := 69) C (zL_mem (by decide) zo32) (fun _ => rfl) hv7 dX11_about_68 rfl ?_
        exact z_iret C dX11_about_69 h
      obtain ⟨hk, h⟩ := h
      by_cases c8 : a1 = 2
      · have h := hk c8
        refine z_tabIn (tgt := 70) C dX11_about_11 2 c8 (by decide) (by decide) rfl (by decide) ?_
        refine z_aload_n (pc' := 71) C dX11_about_70 rfl 0 rfl rfl ?_
        refine zgX11_41 (pc' := 74) C zo22 dX11_about_71 rfl ?_
        refine z_iload_n (pc' := 75) C dX11_about_74 rfl 1 rfl rfl ?_
        obtain ⟨hv9, h⟩ := h
        refine z_iald (n := 10) (pc' := 76) C (zL_mem (by decide) zo33) (fun _ => rfl) hv9 dX11_about_75 rfl ?_
        exact z_iret C dX11_about_76 h
      obtain ⟨hk, h⟩ := h
      by_cases c10 : a1 = 3
      · have h := hk c10
        refine z_tabIn (tgt := 77) C dX11_about_11 3 c10 (by decide) (by decide) rfl (by decide) ?_
        refine z_bipush (v := 12) (pc' := 79) C dX11_about_77 (by decide) rfl ?_
        refine z_aload_n (pc' := 80) C dX11_about_79 rfl 0 rfl rfl ?_
        refine zgX11_35 (pc' := 83) C zo22 dX11_about_80 rfl ?_
        refine z_iload_n (pc' := 84) C dX11_about_83 rfl 1 rfl rfl ?_
        obtain ⟨hv11, h⟩ := h
        refine z_iald (n := 10) (pc' := 85) C (zL_mem (by decide) zo31) (fun _ => rfl) hv11 dX11_about_84 rfl ?_
        refine z_imul (pc' := 86) C dX11_about_85 rfl ?_
        exact z_iret C dX11_about_86 h
      obtain ⟨hk, h⟩ := h
      by_cases c12 : a1 = 4
      · have h := hk c12
        refine z_tabIn (tgt := 87) C dX11_about_11 4 c12 (by decide) (by decide) rfl (by decide) ?_
        refine z_aload_n (pc' := 88) C dX11_about_87 rfl 0 rfl rfl ?_
        refine z_iload_n (pc' := 89) C dX11_about_88 rfl 1 rfl rfl ?_
        refine z_callVi (q := 22) (i := 0) (w9 := (RX11, TX11, 40)) (pc' := 92) (st := []) (As := [.int a0]) C (sc_X11_hayHeld l E σ1 a0 _ h) zwX11_143_X11_hayHeld zvX11_143_X11_hayHeld.1 zvX11_143_X11_hayHeld.2 (zL_mem (by decide) zo22) rfl rfl ⟨(Nat.le_of_ble_eq_true rfl), (Nat.le_of_ble_eq_true rfl)⟩ ⟨Nat.zero_le _, Nat.zero_le _⟩ rfl rfl (Nat.le_of_ble_eq_true rfl) dX11_about_89 rfl (fun r14 σ13 h => ?_)
        exact z_iret C dX11_about_92 h
      obtain ⟨hk, h⟩ := h
      by_cases c15 : a1 = 5
      · have h := hk c15
        refine z_tabIn (tgt := 93) C dX11_about_11 5 c15 (by decide) (by decide) rfl (by decide) ?_
        refine z_aload_n (pc' := 94) C dX11_about_93 rfl 0 rfl rfl ?_
        refine z_iload_n (pc' := 95) C dX11_about_94 rfl 1 rfl rfl ?_
        refine z_callVi (q := 22) (i := 0) (w9 := (RX11, TX11, 40)) (pc' := 98) (st := []) (As := [.int a0]) C (sc_X11_debt l E σ1 a0 _ h) zwX11_146_X11_debt zvX11_146_X11_debt.1 zvX11_146_X11_debt.2 (zL_mem (by decide) zo22) rfl rfl ⟨(Nat.le_of_ble_eq_true rfl), (Nat.le_of_ble_eq_true rfl)⟩ ⟨Nat.zero_le _, Nat.zero_le _⟩ rfl rfl (Nat.le_of_ble_eq_true rfl) dX11_about_95 rfl (fun r17 σ16 h => ?_)
        exact z_iret C dX11_about_98 h
      obtain ⟨hk, h⟩ := h
      by_cases c18 : a1 = 6
      · have h := hk c18
        refine z_tabIn (tgt := 99) C dX11_about_11 6 c18 (by decide) (by decide) rfl (by decide) ?_
        refine z_aload_n (pc' := 100) C dX11_about_99 rfl 0 rfl rfl ?_
        refine zgX11_50 (pc' := 103) C zo22 dX11_about_100 rfl ?_
        refine z_iload_n (pc' := 104) C dX11_about_103 rfl 1 rfl rfl ?_
        obtain ⟨hv19, h⟩ := h
        refine z_iald (n := 10) (pc' := 105) C (zL_mem (by decide) zo36) (fun _ => rfl) hv19 dX11_about_104 rfl ?_
        exact z_iret C dX11_about_105 h
      obtain ⟨hk, h⟩ := h
      by_cases c20 : a1 = 7
      · have h := hk c20
        refine z_tabIn (tgt := 106) C dX11_about_11 7 c20 (by decide) (by decide) rfl (by decide) ?_
        refine z_aload_n (pc' := 107) C dX11_about_106 rfl 0 rfl rfl ?_
        refine zgX11_44 (pc' := 110) C zo22 dX11_about_107 rfl ?_
        refine z_iload_n (pc' := 111) C dX11_about_110 rfl 1 rfl rfl ?_
        obtain ⟨hv21, h⟩ := h
        refine z_zald (n := 10) (pc' := 112) C (zL_mem (by decide) zo34) (fun _ => rfl) hv21 dX11_about_111 rfl ?_
        obtain ⟨ht, hf⟩ := h
        refine z_if_eq (tgt := 119) (pc' := 115) C dX11_about_112 (by decide) rfl (fun c22 => ?_) (fun c22 => ?_)
        · have h := ht c22
          refine z_iconst (v := 0) (pc' := 120) C dX11_about_119 (by decide) rfl ?_
          exact z_iret C dX11_about_120 h
        · have h := hf c22
          refine z_iconst (v := 1) (pc' := 116) C dX11_about_115 (by decide) rfl ?_
          refine z_goto (tgt := 120) C dX11_about_116 (by decide) ?_
          exact z_iret C dX11_about_120 h
      have h := h c4 c6 c8 c10 c12 c15 c18 c20
      refine z_tabOut (tgt := 121) C dX11_about_11 (by have ec4 := lv_neT (a := 0) c4 rfl; have ec6 := lv_neT (a := 1) c6 rfl; have ec8 := lv_neT (a := 2) c8 rfl; have ec10 := lv_neT (a := 3) c10 rfl; have ec12 := lv_neT (a := 4) c12 rfl; have ec15 := lv_neT (a := 5) c15 rfl; have ec18 := lv_neT (a := 6) c18 rfl; have ec20 := lv_neT (a := 7) c20 rfl; omega) (by decide) ?_
      refine z_iconst (v := (-1)) (pc' := 122) C dX11_about_121 (by decide) rfl ?_
      exact z_iret C dX11_about_122 h
    · have h := hf c3
      refine z_iconst (v := (-1)) (pc' := 9) C dX11_about_8 (by decide) rfl ?_
      exact z_iret C dX11_about_9 h
  exact fin
def vc_X11_apart (σ : zMem) (a0 : Int32) (a1 : Int32) (Q : Int32 → zMem → Prop) : Prop := ((a0 ≤ a1) → Q (a1 - a0) σ) ∧ ((¬ a0 ≤ a1) → Q (a0 - a1) σ)
set_option maxHeartbeats 4000000 in
set_option maxRecDepth 100000 in
theorem sc_X11_apart (l : Launch) (E : zE) (σ : zMem) (a0 : Int32) (a1 : Int32) (Q : Int32 → zMem → Prop) (h : vc_X11_apart σ a0 a1 Q) : zMi l yX11_apart cX11_apart 2 .int 0 0 E [.int a0, .int a1] σ Q := by
  refine zMi_of (by decide) (Nat.le_of_ble_eq_true rfl) ?_
  intro p e s m args below meth c C
  unfold vc_X11_apart at h
  have fin : zG p l e (zRm 0 0) s m args below meth c 2 E 0 0 (MQ below (va_Qi Q (zPost E) (zA E s.heap.size)) args s 0 0 (zA E s.heap.size)) σ 0 [(0, .int a0), (1, .int a1)] [] := by
    refine z_iload_n (pc' := 1) C dX11_apart_0 rfl 0 rfl rfl ?_
    refine z_iload_n (pc' := 2) C dX11_apart_1 rfl 1 rfl rfl ?_
    obtain ⟨ht, hf⟩ := h
    refine z_icmp_le (tgt := 11) (pc' := 5) C dX11_apart_2 (by decide) rfl (fun c1 => ?_) (fun c1 => ?_)
    · have h := ht c1
      refine z_iload_n (pc' := 12) C dX11_apart_11 rfl 1 rfl rfl ?_
      refine z_iload_n (pc' := 13) C dX11_apart_12 rfl 0 rfl rfl ?_
      refine z_isub (pc' := 14) C dX11_apart_13 rfl ?_
      exact z_iret C dX11_apart_14 h
    · have h := hf c1
      refine z_iload_n (pc' := 6) C dX11_apart_5 rfl 0 rfl rfl ?_
      refine z_iload_n (pc' := 7) C dX11_apart_6 rfl 1 rfl rfl ?_
      refine z_isub (pc' := 8) C dX11_apart_7 rfl ?_
      refine z_goto (tgt := 14) C dX11_apart_8 (by decide) ?_
      exact z_iret C dX11_apart_14 h
  exact fin
def vc_X11_steps (σ : zMem) (a0 : Int32) (a1 : Int32) (Q : Int32 → zMem → Prop) : Prop := vc_X11_apart σ (a0 - a0 / 6 * 6) (a1 - a1 / 6 * 6) (fun r2 σ1 => vc_X11_apart σ1 (a0 / 6) (a1 / 6) (fun r4 σ3 => Q (r2 + r4) σ3))
set_option maxHeartbeats 4000000 in
set_option maxRecDepth 100000 in
theorem sc_X11_steps (l : Launch) (E : zE) (σ : zMem) (a0 : Int32) (a1 : Int32) (Q : Int32 → zMem → Prop) (h : vc_X11_steps σ a0 a1 Q) : zMi l yX11_steps cX11_steps 2 .int 1 21 E [.int a0, .int a1] σ Q := by
  refine zMi_of (by decide) (Nat.le_of_ble_eq_true rfl) ?_
  intro p e s m args below meth c C
  unfold vc_X11_steps at h
  have fin : zG p l e (zRm 1 21) s m args below meth c 2 E 0 0 (MQ below (va_Qi Q (zPost E) (zA E s.heap.size)) args s 0 0 (zA E s.heap.size)) σ 0 [(0, .int a0), (1, .int a1)] [] := by
    refine z_iload_n (pc' := 1) C dX11_steps_0 rfl 0 rfl rfl ?_
    refine z_bipush (v := 6) (pc' := 3) C dX11_steps_1 (by decide) rfl ?_
    refine z_irem (pc' := 4) C dX11_steps_3 (by decide) rfl ?_
    refine z_iload_n (pc' := 5) C dX11_steps_4 rfl 1 rfl rfl ?_
    refine z_bipush (v := 6) (pc' := 7) C dX11_steps_5 (by decide) rfl ?_
    refine z_irem (pc' := 8) C dX11_steps_7 (by decide) rfl ?_
    refine z_callSi (pc' := 11) (st := []) (As := [.int (a0 - a0 / 6 * 6), .int (a1 - a1 / 6 * 6)]) C (sc_X11_apart l E σ (a0 - a0 / 6 * 6) (a1 - a1 / 6 * 6) _ h) zwX11_149_X11_apart ztX11_149_X11_apart ⟨(Nat.le_of_ble_eq_true rfl), (Nat.le_of_ble_eq_true rfl)⟩ ⟨Nat.zero_le _, Nat.zero_le _⟩ rfl rfl (Nat.le_of_ble_eq_true rfl) dX11_steps_8 rfl (fun r2 σ1 h => ?_)
    refine z_iload_n (pc' := 12) C dX11_steps_11 rfl 0 rfl rfl ?_
    refine z_bipush (v := 6) (pc' := 14) C dX11_steps_12 (by decide) rfl ?_
    refine z_idiv (pc' := 15) C dX11_steps_14 (by decide) rfl ?_
    refine z_iload_n (pc' := 16) C dX11_steps_15 rfl 1 rfl rfl ?_
    refine z_bipush (v := 6) (pc' := 18) C dX11_steps_16 (by decide) rfl ?_
    refine z_idiv (pc' := 19) C dX11_steps_18 (by decide) rfl ?_
    refine z_callSi (pc' := 22) (st := [.int r2]) (As := [.int (a0 / 6), .int (a1 / 6)]) C (sc_X11_apart l E σ1 (a0 / 6) (a1 / 6) _ h) zwX11_149_X11_apart ztX11_149_X11_apart ⟨(Nat.le_of_ble_eq_true rfl), (Nat.le_of_ble_eq_true rfl)⟩ ⟨Nat.zero_le _, Nat.zero_le _⟩ rfl rfl (Nat.le_of_ble_eq_true rfl) dX11_steps_19 rfl (fun r4 σ3 h => ?_)
    refine z_iadd (pc' := 23) C dX11_steps_22 rfl ?_
    exact z_iret C dX11_steps_23 h
  exact fin
def vc_X11_worthOf_28 (x1 : Int32) (x2 : Int32) (x3 : Int32) (Q : Int32 → zMem → Prop) : Nat → zMem → Int32 → Int32 → Prop
  | 0, _, _, _ => False
  | n + 1, σ, x4, x5 => ((24 ≤ x5) → ((x4 = 0) → vc_X11_hayHeld σ x2 (fun r10 σ9 => vp_in x2 10 ∧ (((12 * (σ9 31 0 x2.toNatClampNeg)) ≤ r10) → ((0 ≤ x3) → Q x3 σ9) ∧ ((¬ 0 ≤ x3) → Q 0 σ9)) ∧ ((¬ (12 * (σ9 31 0 x2.toNatClampNeg)) ≤ r10) → ((0 ≤ (x3 * 2)) → Q (x3 * 2) σ9) ∧ ((¬ 0 ≤ (x3 * 2)) → Q 0 σ9)))) ∧ ((¬ x4 = 0) → vc_X11_hayHeld σ x2 (fun r16 σ15 => vp_in x2 10 ∧ (((12 * (σ15 31 0 x2.toNatClampNeg)) ≤ r16) → ((0 ≤ (x3 + 20)) → Q (x3 + 20) σ15) ∧ ((¬ 0 ≤ (x3 + 20)) → Q 0 σ15)) ∧ ((¬ (12 * (σ15 31 0 x2.toNatClampNeg)) ≤ r16) → ((0 ≤ ((x3 + 20) * 2)) → Q ((x3 + 20) * 2) σ15) ∧ ((¬ 0 ≤ ((x3 + 20) * 2)) → Q 0 σ15))))) ∧ ((¬ 24 ≤ x5) → ((¬ x4 = 0) → vc_X11_worthOf_28 x1 x2 x3 Q n σ 1 (x5 + 1)) ∧ ((x4 = 0) → vc_X11_steps σ x1 x5 (fun r23 σ22 => ((¬ r23 = 1) → vc_X11_worthOf_28 x1 x2 x3 Q n σ22 0 (x5 + 1)) ∧ ((r23 = 1) → vc_X11_has σ22 x2 x5 (fun r26 σ25 => ((r26 = 0) → vc_X11_worthOf_28 x1 x2 x3 Q n σ25 0 (x5 + 1)) ∧ ((¬ r26 = 0) → vc_X11_worthOf_28 x1 x2 x3 Q n σ25 1 (x5 + 1)))))))
def vc_X11_worthOf (σ : zMem) (a0 : Int32) (a1 : Int32) (Q : Int32 → zMem → Prop) : Prop := vc_X11_hayOf σ a0 (fun r2 σ1 => vp_in a1 10 ∧ vc_X11_steps σ1 a0 (σ1 33 0 a1.toNatClampNeg) (fun r5 σ4 => ∃ n6, vc_X11_worthOf_28 a0 a1 ((10 * r2) - (5 * r5)) Q n6 σ4 0 0))
set_option maxHeartbeats 4000000 in
set_option maxRecDepth 100000 in
theorem sl_X11_worthOf_28 {p : Program} {l : Launch} {e : Env} {s : State} {m : MethodId} {args : Array Value} {below : List Frame} {meth : Method} {c : Code} {E : zE} (C : zX p s m args meth c cX11_worthOf 6 RX11 (some .int) E) (x1 : Int32) (x2 : Int32) (x3 : Int32) (Q : Int32 → zMem → Prop) : ∀ (n : Nat) (σ : zMem) (x4 : Int32) (x5 : Int32), vc_X11_worthOf_28 x1 x2 x3 Q n σ x4 x5 → zG p l e (zRm 3 64) s m args below meth c 6 E 0 0 (MQ below (va_Qi Q (zPost E) (zA E s.heap.size)) args s 0 0 (zA E s.heap.size)) σ 28 [(0, .ref (E.2.2 22 0)), (1, .int x1), (2, .int x2), (3, .int x3), (4, .int x4), (5, .int x5)] [] := by
  intro n
  induction n with
  | zero =>
    intro σ x4 x5 h
    exact False.elim h
  | succ n ih =>
    intro σ x4 x5 h
    rw [vc_X11_worthOf_28] at h
    refine z_iload (pc' := 30) C dX11_worthOf_28 5 rfl rfl ?_
    refine z_bipush (v := 24) (pc' := 32) C dX11_worthOf_30 (by decide) rfl ?_
    obtain ⟨ht, hf⟩ := h
    refine z_icmp_ge (tgt := 73) (pc' := 35) C dX11_worthOf_32 (by decide) rfl (fun c7 => ?_) (fun c7 => ?_)
    · have h := ht c7
      refine z_iload (pc' := 75) C dX11_worthOf_73 4 rfl rfl ?_
      obtain ⟨ht, hf⟩ := h
      refine z_if_eq (tgt := 81) (pc' := 78) C dX11_worthOf_75 (by decide) rfl (fun c8 => ?_) (fun c8 => ?_)
      · have h := ht c8
        refine z_aload_n (pc' := 82) C dX11_worthOf_81 rfl 0 rfl rfl ?_
        refine z_iload_n (pc' := 83) C dX11_worthOf_82 rfl 2 rfl rfl ?_
        refine z_callVi (q := 22) (i := 0) (w9 := (RX11, TX11, 40)) (pc' := 86) (st := []) (As := [.int x2]) C (sc_X11_hayHeld l E σ x2 _ h) zwX11_143_X11_hayHeld zvX11_143_X11_hayHeld.1 zvX11_143_X11_hayHeld.2 (zL_mem (by decide) zo22) rfl rfl ⟨(Nat.le_of_ble_eq_true rfl), (Nat.le_of_ble_eq_true rfl)⟩ ⟨Nat.zero_le _, Nat.zero_le _⟩ rfl rfl (Nat.le_of_ble_eq_true rfl) dX11_worthOf_83 rfl (fun r10 σ9 h => ?_)
        refine z_bipush (v := 12) (pc' := 88) C dX11_worthOf_86 (by decide) rfl ?_
        refine z_aload_n (pc' := 89) C dX11_worthOf_88 rfl 0 rfl rfl ?_
        refine zgX11_35 (pc' := 92) C zo22 dX11_worthOf_89 rfl ?_
        refine z_iload_n (pc' := 93) C dX11_worthOf_92 rfl 2 rfl rfl ?_
        obtain ⟨hv11, h⟩ := h
        refine z_iald (n := 10) (pc' := 94) C (zL_mem (by decide) zo31) (fun _ => rfl) hv11 dX11_worthOf_93 rfl ?_
        refine z_imul (pc' := 95) C dX11_worthOf_94 rfl ?_
        obtain ⟨ht, hf⟩ := h
        refine z_icmp_ge (tgt := 102) (pc' := 98) C dX11_worthOf_95 (by decide) rfl (fun c12 => ?_) (fun c12 => ?_)
        · have h := ht c12
          refine z_iload_n (pc' := 103) C dX11_worthOf_102 rfl 3 rfl rfl ?_
          obtain ⟨ht, hf⟩ := h
          refine z_if_ge (tgt := 110) (pc' := 106) C dX11_worthOf_103 (by decide) rfl (fun c13 => ?_) (fun c13 => ?_)
          · have h := ht c13
            refine z_iload_n (pc' := 111) C dX11_worthOf_110 rfl 3 rfl rfl ?_
            exact z_iret C dX11_worthOf_111 h
          · have h := hf c13
            refine z_iconst (v := 0) (pc' := 107) C dX11_worthOf_106 (by decide) rfl ?_
            refine z_goto (tgt := 111) C dX11_worthOf_107 (by decide) ?_
            exact z_iret C dX11_worthOf_111 h
        · have h := hf c12
          refine z_iload_n (pc' := 99) C dX11_worthOf_98 rfl 3 rfl rfl ?_
          refine z_iconst (v := 2) (pc' := 100) C dX11_worthOf_99 (by decide) rfl ?_
          refine z_imul (pc' := 101) C dX11_worthOf_100 rfl ?_
          refine z_istore_n (pc' := 102) (lv' := [(3, .int (x3 * 2)), (0, .ref (E.2.2 22 0)), (1, .int x1), (2, .int x2), (4, .int x4), (5, .int x5)]) C dX11_worthOf_101 rfl (by decide) rfl rfl ?_
          refine z_iload_n (pc' := 103) C dX11_worthOf_102 rfl 0 rfl rfl ?_
          obtain ⟨ht, hf⟩ := h
          refine z_if_ge (tgt := 110) (pc' := 106) C dX11_worthOf_103 (by decide) rfl (fun c14 => ?_) (fun c14 => ?_)
          · have h := ht c14
            refine z_iload_n (pc' := 111) C dX11_worthOf_110 rfl 0 rfl rfl ?_
            exact z_iret C dX11_worthOf_111 h
          · have h := hf c14
            refine z_iconst (v := 0) (pc' := 107) C dX11_worthOf_106 (by decide) rfl ?_
            refine z_goto (tgt := 111) C dX11_worthOf_107 (by decide) ?_
            exact z_iret C dX11_worthOf_111 h
      · have h := hf c8
        refine z_iinc (j := 3) (v := x3 + 20) (pc' := 81) (lv' := [(3, .int (x3 + 20)), (0, .ref (E.2.2 22 0)), (1, .int x1), (2, .int x2), (4, .int x4), (5, .int x5)]) C dX11_worthOf_78 rfl rfl (by decide) rfl rfl ?_
        refine z_aload_n (pc' := 82) C dX11_worthOf_81 rfl 1 rfl rfl ?_
        refine z_iload_n (pc' := 83) C dX11_worthOf_82 rfl 3 rfl rfl ?_
        refine z_callVi (q := 22) (i := 0) (w9 := (RX11, TX11, 40)) (pc' := 86) (st := []) (As := [.int x2]) C (sc_X11_hayHeld l E σ x2 _ h) zwX11_143_X11_hayHeld zvX11_143_X11_hayHeld.1 zvX11_143_X11_hayHeld.2 (zL_mem (by decide) zo22) rfl rfl ⟨(Nat.le_of_ble_eq_true rfl), (Nat.le_of_ble_eq_true rfl)⟩ ⟨Nat.zero_le _, Nat.zero_le _⟩ rfl rfl (Nat.le_of_ble_eq_true rfl) dX11_worthOf_83 rfl (fun r16 σ15 h => ?_)
        refine z_bipush (v := 12) (pc' := 88) C dX11_worthOf_86 (by decide) rfl ?_
        refine z_aload_n (pc' := 89) C dX11_worthOf_88 rfl 1 rfl rfl ?_
        refine zgX11_35 (pc' := 92) C zo22 dX11_worthOf_89 rfl ?_
        refine z_iload_n (pc' := 93) C dX11_worthOf_92 rfl 3 rfl rfl ?_
        obtain ⟨hv17, h⟩ := h
        refine z_iald (n := 10) (pc' := 94) C (zL_mem (by decide) zo31) (fun _ => rfl) hv17 dX11_worthOf_93 rfl ?_
        refine z_imul (pc' := 95) C dX11_worthOf_94 rfl ?_
        obtain ⟨ht, hf⟩ := h
        refine z_icmp_ge (tgt := 102) (pc' := 98) C dX11_worthOf_95 (by decide) rfl (fun c18 => ?_) (fun c18 => ?_)
        · have h := ht c18
          refine z_iload_n (pc' := 103) C dX11_worthOf_102 rfl 0 rfl rfl ?_
          obtain ⟨ht, hf⟩ := h
          refine z_if_ge (tgt := 110) (pc' := 106) C dX11_worthOf_103 (by decide) rfl (fun c19 => ?_) (fun c19 => ?_)
          · have h := ht c19
            refine z_iload_n (pc' := 111) C dX11_worthOf_110 rfl 0 rfl rfl ?_
            exact z_iret C dX11_worthOf_111 h
          · have h := hf c19
            refine z_iconst (v := 0) (pc' := 107) C dX11_worthOf_106 (by decide) rfl ?_
            refine z_goto (tgt := 111) C dX11_worthOf_107 (by decide) ?_
            exact z_iret C dX11_worthOf_111 h
        · have h := hf c18
          refine z_iload_n (pc' := 99) C dX11_worthOf_98 rfl 0 rfl rfl ?_
          refine z_iconst (v := 2) (pc' := 100) C dX11_worthOf_99 (by decide) rfl ?_
          refine z_imul (pc' := 101) C dX11_worthOf_100 rfl ?_
          refine z_istore_n (pc' := 102) (lv' := [(3, .int ((x3 + 20) * 2)), (0, .ref (E.2.2 22 0)), (1, .int x1), (2, .int x2), (4, .int x4), (5, .int x5)]) C dX11_worthOf_101 rfl (by decide) rfl rfl ?_
          refine z_iload_n (pc' := 103) C dX11_worthOf_102 rfl 0 rfl rfl ?_
          obtain ⟨ht, hf⟩ := h
          refine z_if_ge (tgt := 110) (pc' := 106) C dX11_worthOf_103 (by decide) rfl (fun c20 => ?_) (fun c20 => ?_)
          · have h := ht c20
            refine z_iload_n (pc' := 111) C dX11_worthOf_110 rfl 0 rfl rfl ?_
            exact z_iret C dX11_worthOf_111 h
          · have h := hf c20
            refine z_iconst (v := 0) (pc' := 107) C dX11_worthOf_106 (by decide) rfl ?_
            refine z_goto (tgt := 111) C dX11_worthOf_107 (by decide) ?_
            exact z_iret C dX11_worthOf_111 h
    · have h := hf c7
      refine z_iload (pc' := 37) C dX11_worthOf_35 4 rfl rfl ?_
      obtain ⟨ht, hf⟩ := h
      refine z_if_ne (tgt := 60) (pc' := 40) C dX11_worthOf_37 (by decide) rfl (fun c21 => ?_) (fun c21 => ?_)
      · have h := ht c21
        refine z_iconst (v := 1) (pc' := 61) C dX11_worthOf_60 (by decide) rfl ?_
        refine z_goto (tgt := 65) C dX11_worthOf_61 (by decide) ?_
        refine z_istore (pc' := 67) (lv' := [(4, .int 1), (0, .ref (E.2.2 22 0)), (1, .int x1), (2, .int x2), (3, .int x3), (5, .int x5)]) C dX11_worthOf_65 (by decide) rfl rfl ?_
        refine z_iinc (j := 5) (v := x5 + 1) (pc' := 70) (lv' := [(5, .int (x5 + 1)), (4, .int 1), (0, .ref (E.2.2 22 0)), (1, .int x1), (2, .int x2), (3, .int x3)]) C dX11_worthOf_67 rfl rfl (by decide) rfl rfl ?_
        refine z_goto (tgt := 28) C dX11_worthOf_70 (by decide) ?_
        refine z_sub (lv' := [(0, .ref (E.2.2 22 0)), (1, .int x1), (2, .int x2), (3, .int x3), (4, .int 1), (5, .int (x5 + 1))]) [2, 3, 4, 5, 1, 0] rfl ?_
        exact ih _ _ _ h
      · have h := hf c21
        refine z_iload_n (pc' := 41) C dX11_worthOf_40 rfl 1 rfl rfl ?_
        refine z_iload (pc' := 43) C dX11_worthOf_41 5 rfl rfl ?_
        refine z_callSi (pc' := 46) (st := []) (As := [.int x1, .int x5]) C (sc_X11_steps l E σ x1 x5 _ h) zwX11_153_X11_steps ztX11_153_X11_steps ⟨(Nat.le_of_ble_eq_true rfl), (Nat.le_of_ble_eq_true rfl)⟩ ⟨Nat.zero_le _, Nat.zero_le _⟩ rfl rfl (Nat.le_of_ble_eq_true rfl) dX11_worthOf_43 rfl (fun r23 σ22 h => ?_)
        refine z_iconst (v := 1) (pc' := 47) C dX11_worthOf_46 (by decide) rfl ?_
        obtain ⟨ht, hf⟩ := h
        refine z_icmp_ne (tgt := 64) (pc' := 50) C dX11_worthOf_47 (by decide) rfl (fun c24 => ?_) (fun c24 => ?_)
        · have h := ht c24
          refine z_iconst (v := 0) (pc' := 65) C dX11_worthOf_64 (by decide) rfl ?_
          refine z_istore (pc' := 67) (lv' := [(4, .int 0), (0, .ref (E.2.2 22 0)), (1, .int x1), (2, .int x2), (3, .int x3), (5, .int x5)]) C dX11_worthOf_65 (by decide) rfl rfl ?_
          refine z_iinc (j := 5) (v := x5 + 1) (pc' := 70) (lv' := [(5, .int (x5 + 1)), (4, .int 0), (0, .ref (E.2.2 22 0)), (1, .int x1), (2, .int x2), (3, .int x3)]) C dX11_worthOf_67 rfl rfl (by decide) rfl rfl ?_
          refine z_goto (tgt := 28) C dX11_worthOf_70 (by decide) ?_
          refine z_sub (lv' := [(0, .ref (E.2.2 22 0)), (1, .int x1), (2, .int x2), (3, .int x3), (4, .int 0), (5, .int (x5 + 1))]) [2, 3, 4, 5, 1, 0] rfl ?_
          exact ih _ _ _ h
        · have h := hf c24
          refine z_aload_n (pc' := 51) C dX11_worthOf_50 rfl 0 rfl rfl ?_
          refine z_iload_n (pc' := 52) C dX11_worthOf_51 rfl 2 rfl rfl ?_
          refine z_iload (pc' := 54) C dX11_worthOf_52 5 rfl rfl ?_
          refine z_callVi (q := 22) (i := 0) (w9 := (RX11, TX11, 40)) (pc' := 57) (st := []) (As := [.int x2, .int x5]) C (sc_X11_has l E σ22 x2 x5 _ h) zwX11_139_X11_has zvX11_139_X11_has.1 zvX11_139_X11_has.2 (zL_mem (by decide) zo22) rfl rfl ⟨(Nat.le_of_ble_eq_true rfl), (Nat.le_of_ble_eq_true rfl)⟩ ⟨Nat.zero_le _, Nat.zero_le _⟩ rfl rfl (Nat.le_of_ble_eq_true rfl) dX11_worthOf_54 rfl (fun r26 σ25 h => ?_)
          obtain ⟨ht, hf⟩ := h
          refine z_if_eq (tgt := 64) (pc' := 60) C dX11_worthOf_57 (by decide) rfl (fun c27 => ?_) (fun c27 => ?_)
          · have h := ht c27
            refine z_iconst (v := 0) (pc' := 65) C dX11_worthOf_64 (by decide) rfl ?_
            refine z_istore (pc' := 67) (lv' := [(4, .int 0), (0, .ref (E.2.2 22 0)), (1, .int x1), (2, .int x2), (3, .int x3), (5, .int x5)]) C dX11_worthOf_65 (by decide) rfl rfl ?_
            refine z_iinc (j := 5) (v := x5 + 1) (pc' := 70) (lv' := [(5, .int (x5 + 1)), (4, .int 0), (0, .ref (E.2.2 22 0)), (1, .int x1), (2, .int x2), (3, .int x3)]) C dX11_worthOf_67 rfl rfl (by decide) rfl rfl ?_
            refine z_goto (tgt := 28) C dX11_worthOf_70 (by decide) ?_
            refine z_sub (lv' := [(0, .ref (E.2.2 22 0)), (1, .int x1), (2, .int x2), (3, .int x3), (4, .int 0), (5, .int (x5 + 1))]) [2, 3, 4, 5, 1, 0] rfl ?_
            exact ih _ _ _ h
          · have h := hf c27
            refine z_iconst (v := 1) (pc' := 61) C dX11_worthOf_60 (by decide) rfl ?_
            refine z_goto (tgt := 65) C dX11_worthOf_61 (by decide) ?_
            refine z_istore (pc' := 67) (lv' := [(4, .int 1), (0, .ref (E.2.2 22 0)), (1, .int x1), (2, .int x2), (3, .int x3), (5, .int x5)]) C dX11_worthOf_65 (by decide) rfl rfl ?_
            refine z_iinc (j := 5) (v := x5 + 1) (pc' := 70) (lv' := [(5, .int (x5 + 1)), (4, .int 1), (0, .ref (E.2.2 22 0)), (1, .int x1), (2, .int x2), (3, .int x3)]) C dX11_worthOf_67 rfl rfl (by decide) rfl rfl ?_
            refine z_goto (tgt := 28) C dX11_worthOf_70 (by decide) ?_
            refine z_sub (lv' := [(0, .ref (E.2.2 22 0)), (1, .int x1), (2, .int x2), (3, .int x3), (4, .int 1), (5, .int (x5 + 1))]) [2, 3, 4, 5, 1, 0] rfl ?_
            exact ih _ _ _ h
set_option maxHeartbeats 4000000 in
set_option maxRecDepth 100000 in
theorem sc_X11_worthOf (l : Launch) (E : zE) (σ : zMem) (a0 : Int32) (a1 : Int32) (Q : Int32 → zMem → Prop) (h : vc_X11_worthOf σ a0 a1 Q) : zMi l yX11_worthOf cX11_worthOf 6 .int 3 64 E [.ref (E.2.2 22 0), .int a0, .int a1] σ Q := by
  refine zMi_of (by decide) (Nat.le_of_ble_eq_true rfl) ?_
  intro p e s m args below meth c C
  unfold vc_X11_worthOf at h
  have fin : zG p l e (zRm 3 64) s m args below meth c 6 E 0 0 (MQ below (va_Qi Q (zPost E) (zA E s.heap.size)) args s 0 0 (zA E s.heap.size)) σ 0 [(0, .ref (E.2.2 22 0)), (1, .int a0), (2, .int a1)] [] := by
    refine z_bipush (v := 10) (pc' := 2) C dX11_worthOf_0 (by decide) rfl ?_
    refine z_aload_n (pc' := 3) C dX11_worthOf_2 rfl 0 rfl rfl ?_
    refine z_iload_n (pc' := 4) C dX11_worthOf_3 rfl 1 rfl rfl ?_
    refine z_callVi (q := 22) (i := 0) (w9 := (RX11, TX11, 40)) (pc' := 7) (st := [.int 10]) (As := [.int a0]) C (sc_X11_hayOf l E σ a0 _ h) zwX11_133_X11_hayOf zvX11_133_X11_hayOf.1 zvX11_133_X11_hayOf.2 (zL_mem (by decide) zo22) rfl rfl ⟨(Nat.le_of_ble_eq_true rfl), (Nat.le_of_ble_eq_true rfl)⟩ ⟨Nat.zero_le _, Nat.zero_le _⟩ rfl rfl (Nat.le_of_ble_eq_true rfl) dX11_worthOf_4 rfl (fun r2 σ1 h => ?_)
    refine z_imul (pc' := 8) C dX11_worthOf_7 rfl ?_
    refine z_iconst (v := 5) (pc' := 9) C dX11_worthOf_8 (by decide) rfl ?_
    refine z_iload_n (pc' := 10) C dX11_worthOf_9 rfl 1 rfl rfl ?_
    refine z_aload_n (pc' := 11) C dX11_worthOf_10 rfl 0 rfl rfl ?_
    refine zgX11_41 (pc' := 14) C zo22 dX11_worthOf_11 rfl ?_
    refine z_iload_n (pc' := 15) C dX11_worthOf_14 rfl 2 rfl rfl ?_
    obtain ⟨hv3, h⟩ := h
    refine z_iald (n := 10) (pc' := 16) C (zL_mem (by decide) zo33) (fun _ => rfl) hv3 dX11_worthOf_15 rfl ?_
    refine z_callSi (pc' := 19) (st := [.int 5, .int (10 * r2)]) (As := [.int a0, .int (σ1 33 0 a1.toNatClampNeg)]) C (sc_X11_steps l E σ1 a0 (σ1 33 0 a1.toNatClampNeg) _ h) zwX11_153_X11_steps ztX11_153_X11_steps ⟨(Nat.le_of_ble_eq_true rfl), (Nat.le_of_ble_eq_true rfl)⟩ ⟨Nat.zero_le _, Nat.zero_le _⟩ rfl rfl (Nat.le_of_ble_eq_true rfl) dX11_worthOf_16 rfl (fun r5 σ4 h => ?_)
    refine z_imul (pc' := 20) C dX11_worthOf_19 rfl ?_
    refine z_isub (pc' := 21) C dX11_worthOf_20 rfl ?_
    refine z_istore_n (pc' := 22) (lv' := [(3, .int ((10 * r2) - (5 * r5))), (0, .ref (E.2.2 22 0)), (1, .int a0), (2, .int a1)]) C dX11_worthOf_21 rfl (by decide) rfl rfl ?_
    refine z_iconst (v := 0) (pc' := 23) C dX11_worthOf_22 (by decide) rfl ?_
    refine z_istore (pc' := 25) (lv' := [(4, .int 0), (3, .int ((10 * r2) - (5 * r5))), (0, .ref (E.2.2 22 0)), (1, .int a0), (2, .int a1)]) C dX11_worthOf_23 (by decide) rfl rfl ?_
    refine z_iconst (v := 0) (pc' := 26) C dX11_worthOf_25 (by decide) rfl ?_
    refine z_istore (pc' := 28) (lv' := [(5, .int 0), (4, .int 0), (3, .int ((10 * r2) - (5 * r5))), (0, .ref (E.2.2 22 0)), (1, .int a0), (2, .int a1)]) C dX11_worthOf_26 (by decide) rfl rfl ?_
    obtain ⟨n6, h⟩ := h
    refine z_sub (lv' := [(0, .ref (E.2.2 22 0)), (1, .int a0), (2, .int a1), (3, .int ((10 * r2) - (5 * r5))), (4, .int 0), (5, .int 0)]) [3, 4, 5, 2, 1, 0] rfl ?_
    exact sl_X11_worthOf_28 C a0 a1 ((10 * r2) - (5 * r5)) Q n6 _ _ _ h
  exact fin

def INV (M : gMem) : Prop := M = M
theorem INV_0 : INV gM0 := rfl
theorem st_house {M : gMem} (h : INV M) : ∃ (r1 : (Int32 × gMem)) (r2 : (Int32 × gMem)), x_X10_house M  = some r1 ∧ x_X11_house r1.2  = some r2 ∧ r1.1 = r2.1 ∧ INV r2.2 := by sorry
theorem st_guest {M : gMem} (h : INV M) (a1 : Int32) (a2 : Int32) (a3 : Int32) : ∃ (r1 : (Int32 × gMem)) (r2 : (Int32 × gMem)), x_X10_guest M a1 a2 a3 = some r1 ∧ x_X11_guest r1.2 a1 a2 a3 = some r2 ∧ r1.1 = r2.1 ∧ INV r2.2 := by sorry
theorem st_duty {M : gMem} (h : INV M) (a1 : Int32) (a2 : Int32) : ∃ (r1 : (Int32 × gMem)) (r2 : (Int32 × gMem)), x_X10_duty M a1 a2 = some r1 ∧ x_X11_duty r1.2 a1 a2 = some r2 ∧ r1.1 = r2.1 ∧ INV r2.2 := by sorry
theorem st_type {M : gMem} (h : INV M) (a1 : Int32) : ∃ (r1 : (Int32 × gMem)) (r2 : (Int32 × gMem)), x_X10_type M a1 = some r1 ∧ x_X11_type r1.2 a1 = some r2 ∧ r1.1 = r2.1 ∧ INV r2.2 := by sorry
theorem st_clear {M : gMem} (h : INV M) : ∃ (r1 : (Int32 × gMem)) (r2 : (Int32 × gMem)), x_X10_clear M  = some r1 ∧ x_X11_clear r1.2  = some r2 ∧ r1.1 = r2.1 ∧ INV r2.2 := by sorry
theorem st_read {M : gMem} (h : INV M) : ∃ (r1 : (Int32 × gMem)) (r2 : (Int32 × gMem)), x_X10_read M  = some r1 ∧ x_X11_read r1.2  = some r2 ∧ r1.1 = r2.1 ∧ INV r2.2 := by sorry
theorem st_hour {M : gMem} (h : INV M) (a1 : Int32) : ∃ (r1 : (Int32 × gMem)) (r2 : (Int32 × gMem)), x_X10_hour M a1 = some r1 ∧ x_X11_hour r1.2 a1 = some r2 ∧ r1.1 = r2.1 ∧ INV r2.2 := by sorry
theorem st_undo {M : gMem} (h : INV M) : ∃ (r1 : (Int32 × gMem)) (r2 : (Int32 × gMem)), x_X10_undo M  = some r1 ∧ x_X11_undo r1.2  = some r2 ∧ r1.1 = r2.1 ∧ INV r2.2 := by sorry
theorem st_of {M : gMem} (h : INV M) (a1 : Int32) (a2 : Int32) : ∃ (r1 : (Int32 × gMem)) (r2 : (Int32 × gMem)), x_X10_of M a1 a2 = some r1 ∧ x_X11_of r1.2 a1 a2 = some r2 ∧ r1.1 = r2.1 ∧ INV r2.2 := by sorry
theorem st_can {M : gMem} (h : INV M) (a1 : Int32) (a2 : Int32) : ∃ (r1 : (Int32 × gMem)) (r2 : (Int32 × gMem)), x_X10_can M a1 a2 = some r1 ∧ x_X11_can r1.2 a1 a2 = some r2 ∧ r1.1 = r2.1 ∧ INV r2.2 := by sorry
theorem st_work {M : gMem} (h : INV M) (a1 : Int32) (a2 : Int32) : ∃ (r1 : (Int32 × gMem)) (r2 : (Int32 × gMem)), x_X10_work M a1 a2 = some r1 ∧ x_X11_work r1.2 a1 a2 = some r2 ∧ r1.1 = r2.1 ∧ INV r2.2 := by sorry
theorem st_all {M : gMem} (h : INV M) (a1 : Int32) : ∃ (r1 : (Int32 × gMem)) (r2 : (Int32 × gMem)), x_X10_all M a1 = some r1 ∧ x_X11_all r1.2 a1 = some r2 ∧ r1.1 = r2.1 ∧ INV r2.2 := by sorry
theorem st_least {M : gMem} (h : INV M) : ∃ (r1 : (Int32 × gMem)) (r2 : (Int32 × gMem)), x_X10_least M  = some r1 ∧ x_X11_least r1.2  = some r2 ∧ r1.1 = r2.1 ∧ INV r2.2 := by sorry
theorem st_most {M : gMem} (h : INV M) (a1 : Int32) : ∃ (r1 : (Int32 × gMem)) (r2 : (Int32 × gMem)), x_X10_most M a1 = some r1 ∧ x_X11_most r1.2 a1 = some r2 ∧ r1.1 = r2.1 ∧ INV r2.2 := by sorry
theorem st_lone {M : gMem} (h : INV M) : ∃ (r1 : Int32) (r2 : Int32), x_X10_lone M  = some r1 ∧ x_X11_lone M  = some r2 ∧ r1 = r2 ∧ INV M := by sorry
theorem st_rings {M : gMem} (h : INV M) (a1 : Int32) : ∃ (r1 : (Int32 × gMem)) (r2 : (Int32 × gMem)), x_X10_rings M a1 = some r1 ∧ x_X11_rings r1.2 a1 = some r2 ∧ r1.1 = r2.1 ∧ INV r2.2 := by sorry
theorem st_smallest {M : gMem} (h : INV M) : ∃ (r1 : (Int32 × gMem)) (r2 : (Int32 × gMem)), x_X10_smallest M  = some r1 ∧ x_X11_smallest r1.2  = some r2 ∧ r1.1 = r2.1 ∧ INV r2.2 := by sorry
theorem st_swap {M : gMem} (h : INV M) (a1 : Int32) : ∃ (r1 : (Int32 × gMem)) (r2 : (Int32 × gMem)), x_X10_swap M a1 = some r1 ∧ x_X11_swap r1.2 a1 = some r2 ∧ r1.1 = r2.1 ∧ INV r2.2 := by sorry
theorem st_takeIn {M : gMem} (h : INV M) (a1 : Int32) : ∃ (r1 : (Int32 × gMem)) (r2 : (Int32 × gMem)), x_X10_takeIn M a1 = some r1 ∧ x_X11_takeIn r1.2 a1 = some r2 ∧ r1.1 = r2.1 ∧ INV r2.2 := by sorry
theorem st_note {M : gMem} (h : INV M) (a1 : Int32) (a2 : Int32) (a3 : Int32) (a4 : Int32) (a5 : Int32) : ∃ (r1 : (Int32 × gMem)) (r2 : (Int32 × gMem)), x_X10_note M a1 a2 a3 a4 a5 = some r1 ∧ x_X11_note r1.2 a1 a2 a3 a4 a5 = some r2 ∧ r1.1 = r2.1 ∧ INV r2.2 := by sorry
theorem st_forget {M : gMem} (h : INV M) : ∃ (r1 : (Int32 × gMem)) (r2 : (Int32 × gMem)), x_X10_forget M  = some r1 ∧ x_X11_forget r1.2  = some r2 ∧ r1.1 = r2.1 ∧ INV r2.2 := by sorry
theorem st_wants {M : gMem} (h : INV M) (a1 : Int32) : ∃ (r1 : (Int32 × gMem)) (r2 : (Int32 × gMem)), x_X10_wants M a1 = some r1 ∧ x_X11_wants r1.2 a1 = some r2 ∧ r1.1 = r2.1 ∧ INV r2.2 := by sorry
theorem st_is {M : gMem} (h : INV M) (a1 : Int32) : ∃ (r1 : (Int32 × gMem)) (r2 : (Int32 × gMem)), x_X10_is M a1 = some r1 ∧ x_X11_is r1.2 a1 = some r2 ∧ r1.1 = r2.1 ∧ INV r2.2 := by sorry
theorem st_next {M : gMem} (h : INV M) (a1 : Int32) : ∃ (r1 : (Int32 × gMem)) (r2 : (Int32 × gMem)), x_X10_next M a1 = some r1 ∧ x_X11_next r1.2 a1 = some r2 ∧ r1.1 = r2.1 ∧ INV r2.2 := by sorry
theorem st_tips {M : gMem} (h : INV M) (a1 : Int32) (a2 : Int32) : ∃ (r1 : (Int32 × gMem)) (r2 : (Int32 × gMem)), x_X10_tips M a1 a2 = some r1 ∧ x_X11_tips r1.2 a1 a2 = some r2 ∧ r1.1 = r2.1 ∧ INV r2.2 := by sorry
theorem st_moods {M : gMem} (h : INV M) (a1 : Int32) : ∃ (r1 : (Int32 × gMem)) (r2 : (Int32 × gMem)), x_X10_moods M a1 = some r1 ∧ x_X11_moods r1.2 a1 = some r2 ∧ r1.1 = r2.1 ∧ INV r2.2 := by sorry
theorem st_hours {M : gMem} (h : INV M) (a1 : Int32) (a2 : Int32) : ∃ (r1 : (Int32 × gMem)) (r2 : (Int32 × gMem)), x_X10_hours M a1 a2 = some r1 ∧ x_X11_hours r1.2 a1 a2 = some r2 ∧ r1.1 = r2.1 ∧ INV r2.2 := by sorry
theorem st_part {M : gMem} (h : INV M) (a1 : Int32) : ∃ (r1 : (Int64 × gMem)) (r2 : (Int64 × gMem)), x_X10_part M a1 = some r1 ∧ x_X11_part r1.2 a1 = some r2 ∧ r1.1 = r2.1 ∧ INV r2.2 := by sorry
theorem st_image {M : gMem} (h : INV M) (a1 : Int32) : ∃ (r1 : (Int32 × gMem)) (r2 : (Int32 × gMem)), x_X10_image M a1 = some r1 ∧ x_X11_image r1.2 a1 = some r2 ∧ r1.1 = r2.1 ∧ INV r2.2 := by sorry
theorem st_from {M : gMem} (h : INV M) (a1 : Int32) : ∃ (r1 : (Int32 × gMem)) (r2 : (Int32 × gMem)), x_X10_from M a1 = some r1 ∧ x_X11_from r1.2 a1 = some r2 ∧ r1.1 = r2.1 ∧ INV r2.2 := by sorry
theorem st_status {M : gMem} (h : INV M) (a1 : Int32) : ∃ (r1 : (Int32 × gMem)) (r2 : (Int32 × gMem)), x_X10_status M a1 = some r1 ∧ x_X11_status r1.2 a1 = some r2 ∧ r1.1 = r2.1 ∧ INV r2.2 := by sorry
theorem st_count {M : gMem} (h : INV M) (a1 : Int32) : ∃ (r1 : (Int32 × gMem)) (r2 : (Int32 × gMem)), x_X10_count M a1 = some r1 ∧ x_X11_count r1.2 a1 = some r2 ∧ r1.1 = r2.1 ∧ INV r2.2 := by sorry
theorem st_digest {M : gMem} (h : INV M) : ∃ (r1 : Int64) (r2 : Int64), x_X10_digest M  = some r1 ∧ x_X11_digest M  = some r2 ∧ r1 = r2 ∧ INV M := by sorry

/-! a Forest's rows, by their numbers -/
section FOR2
variable {G : pm_G} {d : Nat} {h : pm_H} {f : Nat}
theorem f_at1 {i : Int32} {Q : Int32 → pm_H → Prop} (hF : Fa h f) (w : Q (rd (gi h (f + 2)) 24 i) h) : h.1[gp h f 1]? = some (0, 6) ∧ ci G (d + 1) m_X6_at [.ref (gp h f 1), .int i] h Q := f_at hF (k := 1) (by decide) w
theorem g_at1 {i : Int32} {Q : Int32 → pm_H → Prop} (hF : Fa h f) (w : Q (rd (gi h (f + 2)) 24 i) h) : ci G (d + 1) m_X6_at [.ref (gp h f 1), .int i] h Q := (f_at hF (k := 1) (by decide) w).2
theorem f_set1 {i v : Int32} {Q : pm_H → Prop} (hF : Fa h f) (w : Q (sm h (wr (gi h) (f + 2) 24 i v))) : h.1[gp h f 1]? = some (0, 6) ∧ cv G (d + 1) m_X6_set [.ref (gp h f 1), .int i, .int v] h Q := f_set hF (k := 1) (by decide) w
theorem g_set1 {i v : Int32} {Q : pm_H → Prop} (hF : Fa h f) (w : Q (sm h (wr (gi h) (f + 2) 24 i v))) : cv G (d + 1) m_X6_set [.ref (gp h f 1), .int i, .int v] h Q := (f_set hF (k := 1) (by decide) w).2
theorem f_row1 (hF : Fa h f) : h.1[gp h f 1]? = some (0, 6) := by rw [(hF.2.2 1 (by decide)).1]; exact (hF.2.2 1 (by decide)).2.1
theorem f_at2 {i : Int32} {Q : Int32 → pm_H → Prop} (hF : Fa h f) (w : Q (rd (gi h (f + 4)) 24 i) h) : h.1[gp h f 2]? = some (0, 6) ∧ ci G (d + 1) m_X6_at [.ref (gp h f 2), .int i] h Q := f_at hF (k := 2) (by decide) w
theorem g_at2 {i : Int32} {Q : Int32 → pm_H → Prop} (hF : Fa h f) (w : Q (rd (gi h (f + 4)) 24 i) h) : ci G (d + 1) m_X6_at [.ref (gp h f 2), .int i] h Q := (f_at hF (k := 2) (by decide) w).2
theorem f_set2 {i v : Int32} {Q : pm_H → Prop} (hF : Fa h f) (w : Q (sm h (wr (gi h) (f + 4) 24 i v))) : h.1[gp h f 2]? = some (0, 6) ∧ cv G (d + 1) m_X6_set [.ref (gp h f 2), .int i, .int v] h Q := f_set hF (k := 2) (by decide) w
theorem g_set2 {i v : Int32} {Q : pm_H → Prop} (hF : Fa h f) (w : Q (sm h (wr (gi h) (f + 4) 24 i v))) : cv G (d + 1) m_X6_set [.ref (gp h f 2), .int i, .int v] h Q := (f_set hF (k := 2) (by decide) w).2
theorem f_row2 (hF : Fa h f) : h.1[gp h f 2]? = some (0, 6) := by rw [(hF.2.2 2 (by decide)).1]; exact (hF.2.2 2 (by decide)).2.1
theorem f_at3 {i : Int32} {Q : Int32 → pm_H → Prop} (hF : Fa h f) (w : Q (rd (gi h (f + 6)) 24 i) h) : h.1[gp h f 3]? = some (0, 6) ∧ ci G (d + 1) m_X6_at [.ref (gp h f 3), .int i] h Q := f_at hF (k := 3) (by decide) w
theorem g_at3 {i : Int32} {Q : Int32 → pm_H → Prop} (hF : Fa h f) (w : Q (rd (gi h (f + 6)) 24 i) h) : ci G (d + 1) m_X6_at [.ref (gp h f 3), .int i] h Q := (f_at hF (k := 3) (by decide) w).2
theorem f_set3 {i v : Int32} {Q : pm_H → Prop} (hF : Fa h f) (w : Q (sm h (wr (gi h) (f + 6) 24 i v))) : h.1[gp h f 3]? = some (0, 6) ∧ cv G (d + 1) m_X6_set [.ref (gp h f 3), .int i, .int v] h Q := f_set hF (k := 3) (by decide) w
theorem g_set3 {i v : Int32} {Q : pm_H → Prop} (hF : Fa h f) (w : Q (sm h (wr (gi h) (f + 6) 24 i v))) : cv G (d + 1) m_X6_set [.ref (gp h f 3), .int i, .int v] h Q := (f_set hF (k := 3) (by decide) w).2
theorem f_row3 (hF : Fa h f) : h.1[gp h f 3]? = some (0, 6) := by rw [(hF.2.2 3 (by decide)).1]; exact (hF.2.2 3 (by decide)).2.1
theorem f_at4 {i : Int32} {Q : Int32 → pm_H → Prop} (hF : Fa h f) (w : Q (rd (gi h (f + 8)) 24 i) h) : h.1[gp h f 4]? = some (0, 6) ∧ ci G (d + 1) m_X6_at [.ref (gp h f 4), .int i] h Q := f_at hF (k := 4) (by decide) w
theorem g_at4 {i : Int32} {Q : Int32 → pm_H → Prop} (hF : Fa h f) (w : Q (rd (gi h (f + 8)) 24 i) h) : ci G (d + 1) m_X6_at [.ref (gp h f 4), .int i] h Q := (f_at hF (k := 4) (by decide) w).2
theorem f_set4 {i v : Int32} {Q : pm_H → Prop} (hF : Fa h f) (w : Q (sm h (wr (gi h) (f + 8) 24 i v))) : h.1[gp h f 4]? = some (0, 6) ∧ cv G (d + 1) m_X6_set [.ref (gp h f 4), .int i, .int v] h Q := f_set hF (k := 4) (by decide) w
theorem g_set4 {i v : Int32} {Q : pm_H → Prop} (hF : Fa h f) (w : Q (sm h (wr (gi h) (f + 8) 24 i v))) : cv G (d + 1) m_X6_set [.ref (gp h f 4), .int i, .int v] h Q := (f_set hF (k := 4) (by decide) w).2
theorem f_row4 (hF : Fa h f) : h.1[gp h f 4]? = some (0, 6) := by rw [(hF.2.2 4 (by decide)).1]; exact (hF.2.2 4 (by decide)).2.1
theorem f_at5 {i : Int32} {Q : Int32 → pm_H → Prop} (hF : Fa h f) (w : Q (rd (gi h (f + 10)) 24 i) h) : h.1[gp h f 5]? = some (0, 6) ∧ ci G (d + 1) m_X6_at [.ref (gp h f 5), .int i] h Q := f_at hF (k := 5) (by decide) w
theorem g_at5 {i : Int32} {Q : Int32 → pm_H → Prop} (hF : Fa h f) (w : Q (rd (gi h (f + 10)) 24 i) h) : ci G (d + 1) m_X6_at [.ref (gp h f 5), .int i] h Q := (f_at hF (k := 5) (by decide) w).2
theorem f_set5 {i v : Int32} {Q : pm_H → Prop} (hF : Fa h f) (w : Q (sm h (wr (gi h) (f + 10) 24 i v))) : h.1[gp h f 5]? = some (0, 6) ∧ cv G (d + 1) m_X6_set [.ref (gp h f 5), .int i, .int v] h Q := f_set hF (k := 5) (by decide) w
theorem g_set5 {i v : Int32} {Q : pm_H → Prop} (hF : Fa h f) (w : Q (sm h (wr (gi h) (f + 10) 24 i v))) : cv G (d + 1) m_X6_set [.ref (gp h f 5), .int i, .int v] h Q := (f_set hF (k := 5) (by decide) w).2
theorem f_row5 (hF : Fa h f) : h.1[gp h f 5]? = some (0, 6) := by rw [(hF.2.2 5 (by decide)).1]; exact (hF.2.2 5 (by decide)).2.1
theorem f_at6 {i : Int32} {Q : Int32 → pm_H → Prop} (hF : Fa h f) (w : Q (rd (gi h (f + 12)) 24 i) h) : h.1[gp h f 6]? = some (0, 6) ∧ ci G (d + 1) m_X6_at [.ref (gp h f 6), .int i] h Q := f_at hF (k := 6) (by decide) w
theorem g_at6 {i : Int32} {Q : Int32 → pm_H → Prop} (hF : Fa h f) (w : Q (rd (gi h (f + 12)) 24 i) h) : ci G (d + 1) m_X6_at [.ref (gp h f 6), .int i] h Q := (f_at hF (k := 6) (by decide) w).2
theorem f_set6 {i v : Int32} {Q : pm_H → Prop} (hF : Fa h f) (w : Q (sm h (wr (gi h) (f + 12) 24 i v))) : h.1[gp h f 6]? = some (0, 6) ∧ cv G (d + 1) m_X6_set [.ref (gp h f 6), .int i, .int v] h Q := f_set hF (k := 6) (by decide) w
theorem g_set6 {i v : Int32} {Q : pm_H → Prop} (hF : Fa h f) (w : Q (sm h (wr (gi h) (f + 12) 24 i v))) : cv G (d + 1) m_X6_set [.ref (gp h f 6), .int i, .int v] h Q := (f_set hF (k := 6) (by decide) w).2
theorem f_row6 (hF : Fa h f) : h.1[gp h f 6]? = some (0, 6) := by rw [(hF.2.2 6 (by decide)).1]; exact (hF.2.2 6 (by decide)).2.1
theorem f_at7 {i : Int32} {Q : Int32 → pm_H → Prop} (hF : Fa h f) (w : Q (rd (gi h (f + 14)) 24 i) h) : h.1[gp h f 7]? = some (0, 6) ∧ ci G (d + 1) m_X6_at [.ref (gp h f 7), .int i] h Q := f_at hF (k := 7) (by decide) w
theorem g_at7 {i : Int32} {Q : Int32 → pm_H → Prop} (hF : Fa h f) (w : Q (rd (gi h (f + 14)) 24 i) h) : ci G (d + 1) m_X6_at [.ref (gp h f 7), .int i] h Q := (f_at hF (k := 7) (by decide) w).2
theorem f_set7 {i v : Int32} {Q : pm_H → Prop} (hF : Fa h f) (w : Q (sm h (wr (gi h) (f + 14) 24 i v))) : h.1[gp h f 7]? = some (0, 6) ∧ cv G (d + 1) m_X6_set [.ref (gp h f 7), .int i, .int v] h Q := f_set hF (k := 7) (by decide) w
theorem g_set7 {i v : Int32} {Q : pm_H → Prop} (hF : Fa h f) (w : Q (sm h (wr (gi h) (f + 14) 24 i v))) : cv G (d + 1) m_X6_set [.ref (gp h f 7), .int i, .int v] h Q := (f_set hF (k := 7) (by decide) w).2
theorem f_row7 (hF : Fa h f) : h.1[gp h f 7]? = some (0, 6) := by rw [(hF.2.2 7 (by decide)).1]; exact (hF.2.2 7 (by decide)).2.1
theorem f_at8 {i : Int32} {Q : Int32 → pm_H → Prop} (hF : Fa h f) (w : Q (rd (gi h (f + 16)) 24 i) h) : h.1[gp h f 8]? = some (0, 6) ∧ ci G (d + 1) m_X6_at [.ref (gp h f 8), .int i] h Q := f_at hF (k := 8) (by decide) w
theorem g_at8 {i : Int32} {Q : Int32 → pm_H → Prop} (hF : Fa h f) (w : Q (rd (gi h (f + 16)) 24 i) h) : ci G (d + 1) m_X6_at [.ref (gp h f 8), .int i] h Q := (f_at hF (k := 8) (by decide) w).2
theorem f_set8 {i v : Int32} {Q : pm_H → Prop} (hF : Fa h f) (w : Q (sm h (wr (gi h) (f + 16) 24 i v))) : h.1[gp h f 8]? = some (0, 6) ∧ cv G (d + 1) m_X6_set [.ref (gp h f 8), .int i, .int v] h Q := f_set hF (k := 8) (by decide) w
theorem g_set8 {i v : Int32} {Q : pm_H → Prop} (hF : Fa h f) (w : Q (sm h (wr (gi h) (f + 16) 24 i v))) : cv G (d + 1) m_X6_set [.ref (gp h f 8), .int i, .int v] h Q := (f_set hF (k := 8) (by decide) w).2
theorem f_row8 (hF : Fa h f) : h.1[gp h f 8]? = some (0, 6) := by rw [(hF.2.2 8 (by decide)).1]; exact (hF.2.2 8 (by decide)).2.1
theorem f_at9 {i : Int32} {Q : Int32 → pm_H → Prop} (hF : Fa h f) (w : Q (rd (gi h (f + 18)) 24 i) h) : h.1[gp h f 9]? = some (0, 6) ∧ ci G (d + 1) m_X6_at [.ref (gp h f 9), .int i] h Q := f_at hF (k := 9) (by decide) w
theorem g_at9 {i : Int32} {Q : Int32 → pm_H → Prop} (hF : Fa h f) (w : Q (rd (gi h (f + 18)) 24 i) h) : ci G (d + 1) m_X6_at [.ref (gp h f 9), .int i] h Q := (f_at hF (k := 9) (by decide) w).2
theorem f_set9 {i v : Int32} {Q : pm_H → Prop} (hF : Fa h f) (w : Q (sm h (wr (gi h) (f + 18) 24 i v))) : h.1[gp h f 9]? = some (0, 6) ∧ cv G (d + 1) m_X6_set [.ref (gp h f 9), .int i, .int v] h Q := f_set hF (k := 9) (by decide) w
theorem g_set9 {i v : Int32} {Q : pm_H → Prop} (hF : Fa h f) (w : Q (sm h (wr (gi h) (f + 18) 24 i v))) : cv G (d + 1) m_X6_set [.ref (gp h f 9), .int i, .int v] h Q := (f_set hF (k := 9) (by decide) w).2
theorem f_row9 (hF : Fa h f) : h.1[gp h f 9]? = some (0, 6) := by rw [(hF.2.2 9 (by decide)).1]; exact (hF.2.2 9 (by decide)).2.1
theorem f_at10 {i : Int32} {Q : Int32 → pm_H → Prop} (hF : Fa h f) (w : Q (rd (gi h (f + 20)) 72 i) h) : h.1[gp h f 10]? = some (0, 6) ∧ ci G (d + 1) m_X6_at [.ref (gp h f 10), .int i] h Q := f_at hF (k := 10) (by decide) w
theorem g_at10 {i : Int32} {Q : Int32 → pm_H → Prop} (hF : Fa h f) (w : Q (rd (gi h (f + 20)) 72 i) h) : ci G (d + 1) m_X6_at [.ref (gp h f 10), .int i] h Q := (f_at hF (k := 10) (by decide) w).2
theorem f_set10 {i v : Int32} {Q : pm_H → Prop} (hF : Fa h f) (w : Q (sm h (wr (gi h) (f + 20) 72 i v))) : h.1[gp h f 10]? = some (0, 6) ∧ cv G (d + 1) m_X6_set [.ref (gp h f 10), .int i, .int v] h Q := f_set hF (k := 10) (by decide) w
theorem g_set10 {i v : Int32} {Q : pm_H → Prop} (hF : Fa h f) (w : Q (sm h (wr (gi h) (f + 20) 72 i v))) : cv G (d + 1) m_X6_set [.ref (gp h f 10), .int i, .int v] h Q := (f_set hF (k := 10) (by decide) w).2
theorem f_row10 (hF : Fa h f) : h.1[gp h f 10]? = some (0, 6) := by rw [(hF.2.2 10 (by decide)).1]; exact (hF.2.2 10 (by decide)).2.1
theorem f_at11 {i : Int32} {Q : Int32 → pm_H → Prop} (hF : Fa h f) (w : Q (rd (gi h (f + 22)) 20 i) h) : h.1[gp h f 11]? = some (0, 6) ∧ ci G (d + 1) m_X6_at [.ref (gp h f 11), .int i] h Q := f_at hF (k := 11) (by decide) w
theorem g_at11 {i : Int32} {Q : Int32 → pm_H → Prop} (hF : Fa h f) (w : Q (rd (gi h (f + 22)) 20 i) h) : ci G (d + 1) m_X6_at [.ref (gp h f 11), .int i] h Q := (f_at hF (k := 11) (by decide) w).2
theorem f_set11 {i v : Int32} {Q : pm_H → Prop} (hF : Fa h f) (w : Q (sm h (wr (gi h) (f + 22) 20 i v))) : h.1[gp h f 11]? = some (0, 6) ∧ cv G (d + 1) m_X6_set [.ref (gp h f 11), .int i, .int v] h Q := f_set hF (k := 11) (by decide) w
theorem g_set11 {i v : Int32} {Q : pm_H → Prop} (hF : Fa h f) (w : Q (sm h (wr (gi h) (f + 22) 20 i v))) : cv G (d + 1) m_X6_set [.ref (gp h f 11), .int i, .int v] h Q := (f_set hF (k := 11) (by decide) w).2
theorem f_row11 (hF : Fa h f) : h.1[gp h f 11]? = some (0, 6) := by rw [(hF.2.2 11 (by decide)).1]; exact (hF.2.2 11 (by decide)).2.1
theorem f_at12 {i : Int32} {Q : Int32 → pm_H → Prop} (hF : Fa h f) (w : Q (rd (gi h (f + 24)) 20 i) h) : h.1[gp h f 12]? = some (0, 6) ∧ ci G (d + 1) m_X6_at [.ref (gp h f 12), .int i] h Q := f_at hF (k := 12) (by decide) w
theorem g_at12 {i : Int32} {Q : Int32 → pm_H → Prop} (hF : Fa h f) (w : Q (rd (gi h (f + 24)) 20 i) h) : ci G (d + 1) m_X6_at [.ref (gp h f 12), .int i] h Q := (f_at hF (k := 12) (by decide) w).2
theorem f_set12 {i v : Int32} {Q : pm_H → Prop} (hF : Fa h f) (w : Q (sm h (wr (gi h) (f + 24) 20 i v))) : h.1[gp h f 12]? = some (0, 6) ∧ cv G (d + 1) m_X6_set [.ref (gp h f 12), .int i, .int v] h Q := f_set hF (k := 12) (by decide) w
theorem g_set12 {i v : Int32} {Q : pm_H → Prop} (hF : Fa h f) (w : Q (sm h (wr (gi h) (f + 24) 20 i v))) : cv G (d + 1) m_X6_set [.ref (gp h f 12), .int i, .int v] h Q := (f_set hF (k := 12) (by decide) w).2
theorem f_row12 (hF : Fa h f) : h.1[gp h f 12]? = some (0, 6) := by rw [(hF.2.2 12 (by decide)).1]; exact (hF.2.2 12 (by decide)).2.1
theorem f_at13 {i : Int32} {Q : Int32 → pm_H → Prop} (hF : Fa h f) (w : Q (rd (gi h (f + 26)) 20 i) h) : h.1[gp h f 13]? = some (0, 6) ∧ ci G (d + 1) m_X6_at [.ref (gp h f 13), .int i] h Q := f_at hF (k := 13) (by decide) w
theorem g_at13 {i : Int32} {Q : Int32 → pm_H → Prop} (hF : Fa h f) (w : Q (rd (gi h (f + 26)) 20 i) h) : ci G (d + 1) m_X6_at [.ref (gp h f 13), .int i] h Q := (f_at hF (k := 13) (by decide) w).2
theorem f_set13 {i v : Int32} {Q : pm_H → Prop} (hF : Fa h f) (w : Q (sm h (wr (gi h) (f + 26) 20 i v))) : h.1[gp h f 13]? = some (0, 6) ∧ cv G (d + 1) m_X6_set [.ref (gp h f 13), .int i, .int v] h Q := f_set hF (k := 13) (by decide) w
theorem g_set13 {i v : Int32} {Q : pm_H → Prop} (hF : Fa h f) (w : Q (sm h (wr (gi h) (f + 26) 20 i v))) : cv G (d + 1) m_X6_set [.ref (gp h f 13), .int i, .int v] h Q := (f_set hF (k := 13) (by decide) w).2
theorem f_row13 (hF : Fa h f) : h.1[gp h f 13]? = some (0, 6) := by rw [(hF.2.2 13 (by decide)).1]; exact (hF.2.2 13 (by decide)).2.1
theorem f_at14 {i : Int32} {Q : Int32 → pm_H → Prop} (hF : Fa h f) (w : Q (rd (gi h (f + 28)) 20 i) h) : h.1[gp h f 14]? = some (0, 6) ∧ ci G (d + 1) m_X6_at [.ref (gp h f 14), .int i] h Q := f_at hF (k := 14) (by decide) w
theorem g_at14 {i : Int32} {Q : Int32 → pm_H → Prop} (hF : Fa h f) (w : Q (rd (gi h (f + 28)) 20 i) h) : ci G (d + 1) m_X6_at [.ref (gp h f 14), .int i] h Q := (f_at hF (k := 14) (by decide) w).2
theorem f_set14 {i v : Int32} {Q : pm_H → Prop} (hF : Fa h f) (w : Q (sm h (wr (gi h) (f + 28) 20 i v))) : h.1[gp h f 14]? = some (0, 6) ∧ cv G (d + 1) m_X6_set [.ref (gp h f 14), .int i, .int v] h Q := f_set hF (k := 14) (by decide) w
theorem g_set14 {i v : Int32} {Q : pm_H → Prop} (hF : Fa h f) (w : Q (sm h (wr (gi h) (f + 28) 20 i v))) : cv G (d + 1) m_X6_set [.ref (gp h f 14), .int i, .int v] h Q := (f_set hF (k := 14) (by decide) w).2
theorem f_row14 (hF : Fa h f) : h.1[gp h f 14]? = some (0, 6) := by rw [(hF.2.2 14 (by decide)).1]; exact (hF.2.2 14 (by decide)).2.1
theorem f_at15 {i : Int32} {Q : Int32 → pm_H → Prop} (hF : Fa h f) (w : Q (rd (gi h (f + 30)) 20 i) h) : h.1[gp h f 15]? = some (0, 6) ∧ ci G (d + 1) m_X6_at [.ref (gp h f 15), .int i] h Q := f_at hF (k := 15) (by decide) w
theorem g_at15 {i : Int32} {Q : Int32 → pm_H → Prop} (hF : Fa h f) (w : Q (rd (gi h (f + 30)) 20 i) h) : ci G (d + 1) m_X6_at [.ref (gp h f 15), .int i] h Q := (f_at hF (k := 15) (by decide) w).2
theorem f_set15 {i v : Int32} {Q : pm_H → Prop} (hF : Fa h f) (w : Q (sm h (wr (gi h) (f + 30) 20 i v))) : h.1[gp h f 15]? = some (0, 6) ∧ cv G (d + 1) m_X6_set [.ref (gp h f 15), .int i, .int v] h Q := f_set hF (k := 15) (by decide) w
theorem g_set15 {i v : Int32} {Q : pm_H → Prop} (hF : Fa h f) (w : Q (sm h (wr (gi h) (f + 30) 20 i v))) : cv G (d + 1) m_X6_set [.ref (gp h f 15), .int i, .int v] h Q := (f_set hF (k := 15) (by decide) w).2
theorem f_row15 (hF : Fa h f) : h.1[gp h f 15]? = some (0, 6) := by rw [(hF.2.2 15 (by decide)).1]; exact (hF.2.2 15 (by decide)).2.1
end FOR2

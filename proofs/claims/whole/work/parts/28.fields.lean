/-! FIELD TABLES and CONSTANTS by the owner of the pool, written by a program -/
def fl_TK : List (Nat × Nat × Nat × Nat × Nat × Nat) := [(10, 0, 0, 1, 2, 4), (19, 0, 2, 1, 2, 5), (25, 0, 1, 1, 2, 6), (30, 0, 3, 1, 2, 1), (41, 1, 2, 2, 3, 0), (60, 1, 3, 2, 3, 0), (67, 0, 4, 1, 2, 0), (70, 0, 5, 1, 2, 0), (73, 0, 6, 1, 2, 0), (76, 0, 7, 1, 2, 0), (88, 1, 4, 2, 3, 0), (101, 1, 0, 2, 3, 7), (105, 3, 2, 31, 41, 1), (130, 5, 0, 73, 81, 1), (140, 5, 9, 73, 81, 1), (150, 5, 12, 73, 81, 0), (153, 1, 1, 2, 3, 8), (157, 4, 2, 41, 73, 0), (169, 2, 0, 3, 4, 0), (172, 2, 1, 3, 4, 0), (175, 1, 5, 2, 3, 0), (178, 3, 3, 31, 41, 0)]
def cs_TK : List (Nat × Int) := [(52, 100000), (133, 100000000)]
def fl_Tr : List (Nat × Nat × Nat × Nat × Nat × Nat) := [(11, 1, 0, 2, 3, 7), (19, 1, 1, 2, 3, 8), (25, 1, 2, 2, 3, 0), (29, 1, 3, 2, 3, 0), (32, 1, 4, 2, 3, 0), (35, 3, 1, 31, 41, 0), (38, 3, 0, 31, 41, 0), (45, 4, 0, 41, 73, 0), (48, 4, 1, 41, 73, 0), (51, 3, 2, 31, 41, 1), (55, 3, 3, 31, 41, 0), (58, 4, 2, 41, 73, 0), (61, 1, 5, 2, 3, 0), (72, 3, 4, 31, 41, 1), (83, 4, 3, 41, 73, 0), (86, 3, 5, 31, 41, 1), (89, 5, 9, 73, 81, 1), (98, 5, 10, 73, 81, 1), (101, 5, 6, 73, 81, 0), (108, 5, 11, 73, 81, 1), (111, 5, 5, 73, 81, 0), (114, 4, 4, 41, 73, 0)]
def cs_Tr : List (Nat × Int) := []
def fl_Au : List (Nat × Nat × Nat × Nat × Nat × Nat) := [(9, 2, 0, 3, 4, 0), (15, 2, 1, 3, 4, 0), (18, 5, 5, 73, 81, 0), (23, 1, 1, 2, 3, 8), (29, 4, 2, 41, 73, 0), (38, 5, 12, 73, 81, 0), (49, 5, 9, 73, 81, 1)]
def cs_Au : List (Nat × Int) := []
def fl_Se : List (Nat × Nat × Nat × Nat × Nat × Nat) := []
def cs_Se : List (Nat × Int) := []
def fl_Su : List (Nat × Nat × Nat × Nat × Nat × Nat) := []
def cs_Su : List (Nat × Int) := []
def fl_Ti : List (Nat × Nat × Nat × Nat × Nat × Nat) := [(9, 5, 0, 73, 81, 1), (15, 5, 9, 73, 81, 1), (18, 5, 10, 73, 81, 1), (21, 5, 12, 73, 81, 0), (25, 5, 1, 73, 81, 0), (28, 5, 2, 73, 81, 1), (31, 5, 7, 73, 81, 1), (34, 5, 4, 73, 81, 0), (49, 5, 6, 73, 81, 0), (52, 5, 5, 73, 81, 0), (55, 5, 3, 73, 81, 0), (58, 5, 8, 73, 81, 0)]
def cs_Ti : List (Nat × Int) := []
def fl_Mo : List (Nat × Nat × Nat × Nat × Nat × Nat) := [(9, 6, 12, 7, 8, 10), (13, 6, 13, 7, 8, 11), (16, 6, 14, 7, 8, 12), (19, 6, 15, 7, 8, 13), (22, 6, 16, 7, 8, 14), (25, 6, 17, 7, 8, 15), (28, 6, 18, 7, 8, 16), (31, 6, 19, 7, 8, 17), (34, 6, 20, 7, 8, 18), (38, 6, 21, 7, 8, 19), (41, 6, 22, 7, 8, 20), (44, 6, 23, 7, 8, 21), (47, 6, 24, 7, 8, 22), (50, 6, 25, 7, 8, 23), (53, 6, 26, 7, 8, 24), (56, 6, 27, 7, 8, 25), (59, 6, 28, 7, 8, 26), (62, 6, 29, 7, 8, 27), (65, 6, 30, 7, 8, 28), (68, 6, 31, 7, 8, 29), (71, 6, 32, 7, 8, 30), (74, 6, 33, 7, 8, 31), (77, 6, 34, 7, 8, 32), (80, 6, 0, 7, 8, 0), (84, 6, 1, 7, 8, 0), (87, 6, 2, 7, 8, 0), (90, 6, 11, 7, 8, 1), (107, 6, 4, 7, 8, 0), (110, 6, 5, 7, 8, 0), (113, 6, 6, 7, 8, 0), (116, 6, 10, 7, 8, 0), (122, 6, 3, 7, 8, 0), (125, 6, 7, 7, 8, 0), (128, 6, 8, 7, 8, 0), (131, 6, 9, 7, 8, 0)]
def cs_Mo : List (Nat × Int) := [(102, 100000), (169, 100000000)]
def fl_In : List (Nat × Nat × Nat × Nat × Nat × Nat) := []
def cs_In : List (Nat × Int) := [(265, 1431655765), (266, 858993459), (267, 252645135)]
def fl_La : List (Nat × Nat × Nat × Nat × Nat × Nat) := []
def cs_La : List (Nat × Int) := []
set_option maxRecDepth 100000 in
theorem fo_TK : tk_flok "TrackKeeper" fl_TK := by unfold tk_flok; decide +kernel
set_option maxRecDepth 100000 in
theorem co_TK : tk_csok "TrackKeeper" cs_TK := by unfold tk_csok; decide +kernel
set_option maxRecDepth 100000 in
theorem fo_Tr : tk_flok "TrackKeeper$Track" fl_Tr := by unfold tk_flok; decide +kernel
set_option maxRecDepth 100000 in
theorem co_Tr : tk_csok "TrackKeeper$Track" cs_Tr := by unfold tk_csok; decide +kernel
set_option maxRecDepth 100000 in
theorem fo_Au : tk_flok "TrackKeeper$Authorities" fl_Au := by unfold tk_flok; decide +kernel
set_option maxRecDepth 100000 in
theorem co_Au : tk_csok "TrackKeeper$Authorities" cs_Au := by unfold tk_csok; decide +kernel
set_option maxRecDepth 100000 in
theorem fo_Se : tk_flok "TrackKeeper$Section" fl_Se := by unfold tk_flok; decide +kernel
set_option maxRecDepth 100000 in
theorem co_Se : tk_csok "TrackKeeper$Section" cs_Se := by unfold tk_csok; decide +kernel
set_option maxRecDepth 100000 in
theorem fo_Su : tk_flok "TrackKeeper$Subsection" fl_Su := by unfold tk_flok; decide +kernel
set_option maxRecDepth 100000 in
theorem co_Su : tk_csok "TrackKeeper$Subsection" cs_Su := by unfold tk_csok; decide +kernel
set_option maxRecDepth 100000 in
theorem fo_Ti : tk_flok "TrackKeeper$Train" fl_Ti := by unfold tk_flok; decide +kernel
set_option maxRecDepth 100000 in
theorem co_Ti : tk_csok "TrackKeeper$Train" cs_Ti := by unfold tk_csok; decide +kernel
set_option maxRecDepth 100000 in
theorem fo_Mo : tk_flok "TrackKeeperModel" fl_Mo := by unfold tk_flok; decide +kernel
set_option maxRecDepth 100000 in
theorem co_Mo : tk_csok "TrackKeeperModel" cs_Mo := by unfold tk_csok; decide +kernel
set_option maxRecDepth 100000 in
theorem fo_La : tk_flok "TrackKeeperLaw" fl_La := by unfold tk_flok; decide +kernel
set_option maxRecDepth 100000 in
theorem co_La : tk_csok "TrackKeeperLaw" cs_La := by unfold tk_csok; decide +kernel
set_option maxRecDepth 100000 in
theorem fo_In : tk_flok "java/lang/Integer" fl_In := by unfold tk_flok; decide +kernel
set_option maxRecDepth 100000 in
theorem co_In : tk_csok "java/lang/Integer" cs_In := by unfold tk_csok; decide +kernel

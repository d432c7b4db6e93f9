/-! the fixed objects, by their numbers (64: the class's object; 165: the reference's), and what of them never changes; program mk41.py -/
def T0l : List (Nat × Nat) := [(12, 10), (8, 4), (106, 8), (105, 6), (4, 2), (100, 400), (10, 5), (100, 16), (10, 5), (100, 16), (10, 5), (100, 16), (10, 5), (100, 16), (10, 5), (100, 16), (10, 5), (100, 16), (10, 5), (100, 16), (10, 5), (100, 16), (4, 2), (100, 162), (104, 6), (7, 4), (100, 60), (101, 60), (7, 4), (100, 60), (101, 60), (7, 4), (100, 60), (101, 60), (7, 4), (100, 60), (101, 60), (7, 4), (100, 60), (101, 60), (7, 4), (100, 60), (101, 60), (8, 4), (106, 8), (105, 6), (4, 2), (100, 400), (10, 5), (100, 16), (10, 5), (100, 16), (10, 5), (100, 16), (10, 5), (100, 16), (10, 5), (100, 16), (10, 5), (100, 16), (10, 5), (100, 16), (10, 5), (100, 16), (4, 2), (100, 160), (4, 2), (100, 53), (10, 5), (100, 16), (11, 18), (102, 9), (106, 48), (10, 5), (100, 16), (10, 5), (100, 16), (4, 2), (100, 53), (4, 2), (100, 400), (106, 348), (100, 348), (0, 5), (100, 6), (0, 5), (100, 6), (0, 5), (100, 6), (0, 5), (100, 6), (0, 5), (100, 6), (0, 5), (100, 6), (0, 5), (100, 6), (0, 5), (100, 6), (0, 5), (100, 6), (13, 63), (100, 10), (100, 10), (100, 10), (100, 160), (101, 10), (100, 64), (100, 160), (100, 960), (100, 6), (100, 400), (100, 400), (100, 640), (100, 640), (100, 640), (100, 10240), (101, 640), (100, 72), (100, 12), (100, 12), (100, 12), (100, 80), (100, 480), (100, 80), (100, 128), (100, 128), (100, 128), (100, 6), (100, 6), (100, 360), (101, 360), (100, 6), (100, 960), (100, 400), (100, 8), (100, 8), (100, 8), (100, 128), (101, 8)]
def R0l : List (Nat × Nat × Nat) := [(65, 0, 66), (65, 1, 67), (65, 2, 68), (68, 0, 69), (66, 0, 70), (70, 4, 71), (66, 1, 72), (72, 4, 73), (66, 2, 74), (74, 4, 75), (66, 3, 76), (76, 4, 77), (66, 4, 78), (78, 4, 79), (66, 5, 80), (80, 4, 81), (66, 6, 82), (82, 4, 83), (66, 7, 84), (84, 4, 85), (64, 0, 65), (86, 0, 87), (64, 4, 86), (64, 9, 88), (88, 0, 89), (89, 2, 90), (89, 3, 91), (88, 1, 92), (92, 2, 93), (92, 3, 94), (88, 2, 95), (95, 2, 96), (95, 3, 97), (88, 3, 98), (98, 2, 99), (98, 3, 100), (88, 4, 101), (101, 2, 102), (101, 3, 103), (88, 5, 104), (104, 2, 105), (104, 3, 106), (107, 0, 108), (107, 1, 109), (107, 2, 110), (110, 0, 111), (108, 0, 112), (112, 4, 113), (108, 1, 114), (114, 4, 115), (108, 2, 116), (116, 4, 117), (108, 3, 118), (118, 4, 119), (108, 4, 120), (120, 4, 121), (108, 5, 122), (122, 4, 123), (108, 6, 124), (124, 4, 125), (108, 7, 126), (126, 4, 127), (64, 1, 107), (128, 0, 129), (64, 3, 128), (130, 0, 131), (64, 5, 130), (132, 4, 133), (64, 6, 132), (64, 7, 134), (134, 2, 135), (134, 3, 136), (134, 4, 137), (137, 4, 138), (134, 5, 139), (139, 4, 140), (134, 6, 141), (141, 0, 142), (134, 7, 143), (143, 0, 144), (134, 8, 145), (134, 9, 146), (134, 0, 65), (134, 1, 86), (135, 0, 147), (147, 0, 148), (135, 1, 149), (149, 0, 150), (135, 2, 151), (151, 0, 152), (135, 3, 153), (153, 0, 154), (135, 4, 155), (155, 0, 156), (135, 5, 157), (157, 0, 158), (135, 6, 159), (159, 0, 160), (135, 7, 161), (161, 0, 162), (135, 8, 163), (163, 0, 164), (165, 0, 166), (165, 1, 167), (165, 2, 168), (165, 3, 169), (165, 4, 170), (165, 5, 171), (165, 7, 172), (165, 8, 173), (165, 9, 174), (165, 19, 175), (165, 20, 176), (165, 25, 177), (165, 26, 178), (165, 27, 179), (165, 28, 180), (165, 29, 181), (165, 31, 182), (165, 32, 183), (165, 33, 184), (165, 34, 185), (165, 39, 186), (165, 40, 187), (165, 41, 188), (165, 44, 189), (165, 45, 190), (165, 46, 191), (165, 48, 192), (165, 49, 193), (165, 50, 194), (165, 51, 195), (165, 52, 196), (165, 53, 197), (165, 54, 198), (165, 55, 199), (165, 56, 200), (165, 57, 201), (165, 58, 202), (165, 59, 203)]
def WT (h : hp) : Prop := ∀ q ∈ R0l, hR h q.1 q.2.1 = q.2.2
def WF (h : hp) : Prop := (∀ i, i < 140 → hT h (64 + i) = T0l.getD i (0, 0)) ∧ WT h ∧ 140 ≤ hN h
theorem T64 {h : hp} (w : WF h) : hT h 64 = (12, 10) := w.1 0 (by decide)
theorem T65 {h : hp} (w : WF h) : hT h 65 = (8, 4) := w.1 1 (by decide)
theorem T66 {h : hp} (w : WF h) : hT h 66 = (106, 8) := w.1 2 (by decide)
theorem T67 {h : hp} (w : WF h) : hT h 67 = (105, 6) := w.1 3 (by decide)
theorem T68 {h : hp} (w : WF h) : hT h 68 = (4, 2) := w.1 4 (by decide)
theorem T69 {h : hp} (w : WF h) : hT h 69 = (100, 400) := w.1 5 (by decide)
theorem T70 {h : hp} (w : WF h) : hT h 70 = (10, 5) := w.1 6 (by decide)
theorem T71 {h : hp} (w : WF h) : hT h 71 = (100, 16) := w.1 7 (by decide)
theorem T72 {h : hp} (w : WF h) : hT h 72 = (10, 5) := w.1 8 (by decide)
theorem T73 {h : hp} (w : WF h) : hT h 73 = (100, 16) := w.1 9 (by decide)
theorem T74 {h : hp} (w : WF h) : hT h 74 = (10, 5) := w.1 10 (by decide)
theorem T75 {h : hp} (w : WF h) : hT h 75 = (100, 16) := w.1 11 (by decide)
theorem T76 {h : hp} (w : WF h) : hT h 76 = (10, 5) := w.1 12 (by decide)
theorem T77 {h : hp} (w : WF h) : hT h 77 = (100, 16) := w.1 13 (by decide)
theorem T78 {h : hp} (w : WF h) : hT h 78 = (10, 5) := w.1 14 (by decide)
theorem T79 {h : hp} (w : WF h) : hT h 79 = (100, 16) := w.1 15 (by decide)
theorem T80 {h : hp} (w : WF h) : hT h 80 = (10, 5) := w.1 16 (by decide)
theorem T81 {h : hp} (w : WF h) : hT h 81 = (100, 16) := w.1 17 (by decide)
theorem T82 {h : hp} (w : WF h) : hT h 82 = (10, 5) := w.1 18 (by decide)
theorem T83 {h : hp} (w : WF h) : hT h 83 = (100, 16) := w.1 19 (by decide)
theorem T84 {h : hp} (w : WF h) : hT h 84 = (10, 5) := w.1 20 (by decide)
theorem T85 {h : hp} (w : WF h) : hT h 85 = (100, 16) := w.1 21 (by decide)
theorem T86 {h : hp} (w : WF h) : hT h 86 = (4, 2) := w.1 22 (by decide)
theorem T87 {h : hp} (w : WF h) : hT h 87 = (100, 162) := w.1 23 (by decide)
theorem T88 {h : hp} (w : WF h) : hT h 88 = (104, 6) := w.1 24 (by decide)
theorem T89 {h : hp} (w : WF h) : hT h 89 = (7, 4) := w.1 25 (by decide)
theorem T90 {h : hp} (w : WF h) : hT h 90 = (100, 60) := w.1 26 (by decide)
theorem T91 {h : hp} (w : WF h) : hT h 91 = (101, 60) := w.1 27 (by decide)
theorem T92 {h : hp} (w : WF h) : hT h 92 = (7, 4) := w.1 28 (by decide)
theorem T93 {h : hp} (w : WF h) : hT h 93 = (100, 60) := w.1 29 (by decide)
theorem T94 {h : hp} (w : WF h) : hT h 94 = (101, 60) := w.1 30 (by decide)
theorem T95 {h : hp} (w : WF h) : hT h 95 = (7, 4) := w.1 31 (by decide)
theorem T96 {h : hp} (w : WF h) : hT h 96 = (100, 60) := w.1 32 (by decide)
theorem T97 {h : hp} (w : WF h) : hT h 97 = (101, 60) := w.1 33 (by decide)
theorem T98 {h : hp} (w : WF h) : hT h 98 = (7, 4) := w.1 34 (by decide)
theorem T99 {h : hp} (w : WF h) : hT h 99 = (100, 60) := w.1 35 (by decide)
theorem T100 {h : hp} (w : WF h) : hT h 100 = (101, 60) := w.1 36 (by decide)
theorem T101 {h : hp} (w : WF h) : hT h 101 = (7, 4) := w.1 37 (by decide)
theorem T102 {h : hp} (w : WF h) : hT h 102 = (100, 60) := w.1 38 (by decide)
theorem T103 {h : hp} (w : WF h) : hT h 103 = (101, 60) := w.1 39 (by decide)
theorem T104 {h : hp} (w : WF h) : hT h 104 = (7, 4) := w.1 40 (by decide)
theorem T105 {h : hp} (w : WF h) : hT h 105 = (100, 60) := w.1 41 (by decide)
theorem T106 {h : hp} (w : WF h) : hT h 106 = (101, 60) := w.1 42 (by decide)
theorem T107 {h : hp} (w : WF h) : hT h 107 = (8, 4) := w.1 43 (by decide)
theorem T108 {h : hp} (w : WF h) : hT h 108 = (106, 8) := w.1 44 (by decide)
theorem T109 {h : hp} (w : WF h) : hT h 109 = (105, 6) := w.1 45 (by decide)
theorem T110 {h : hp} (w : WF h) : hT h 110 = (4, 2) := w.1 46 (by decide)
theorem T111 {h : hp} (w : WF h) : hT h 111 = (100, 400) := w.1 47 (by decide)
theorem T112 {h : hp} (w : WF h) : hT h 112 = (10, 5) := w.1 48 (by decide)
theorem T113 {h : hp} (w : WF h) : hT h 113 = (100, 16) := w.1 49 (by decide)
theorem T114 {h : hp} (w : WF h) : hT h 114 = (10, 5) := w.1 50 (by decide)
theorem T115 {h : hp} (w : WF h) : hT h 115 = (100, 16) := w.1 51 (by decide)
theorem T116 {h : hp} (w : WF h) : hT h 116 = (10, 5) := w.1 52 (by decide)
theorem T117 {h : hp} (w : WF h) : hT h 117 = (100, 16) := w.1 53 (by decide)
theorem T118 {h : hp} (w : WF h) : hT h 118 = (10, 5) := w.1 54 (by decide)
theorem T119 {h : hp} (w : WF h) : hT h 119 = (100, 16) := w.1 55 (by decide)
theorem T120 {h : hp} (w : WF h) : hT h 120 = (10, 5) := w.1 56 (by decide)
theorem T121 {h : hp} (w : WF h) : hT h 121 = (100, 16) := w.1 57 (by decide)
theorem T122 {h : hp} (w : WF h) : hT h 122 = (10, 5) := w.1 58 (by decide)
theorem T123 {h : hp} (w : WF h) : hT h 123 = (100, 16) := w.1 59 (by decide)
theorem T124 {h : hp} (w : WF h) : hT h 124 = (10, 5) := w.1 60 (by decide)
theorem T125 {h : hp} (w : WF h) : hT h 125 = (100, 16) := w.1 61 (by decide)
theorem T126 {h : hp} (w : WF h) : hT h 126 = (10, 5) := w.1 62 (by decide)
theorem T127 {h : hp} (w : WF h) : hT h 127 = (100, 16) := w.1 63 (by decide)
theorem T128 {h : hp} (w : WF h) : hT h 128 = (4, 2) := w.1 64 (by decide)
theorem T129 {h : hp} (w : WF h) : hT h 129 = (100, 160) := w.1 65 (by decide)
theorem T130 {h : hp} (w : WF h) : hT h 130 = (4, 2) := w.1 66 (by decide)
theorem T131 {h : hp} (w : WF h) : hT h 131 = (100, 53) := w.1 67 (by decide)
theorem T132 {h : hp} (w : WF h) : hT h 132 = (10, 5) := w.1 68 (by decide)
theorem T133 {h : hp} (w : WF h) : hT h 133 = (100, 16) := w.1 69 (by decide)
theorem T134 {h : hp} (w : WF h) : hT h 134 = (11, 18) := w.1 70 (by decide)
theorem T135 {h : hp} (w : WF h) : hT h 135 = (102, 9) := w.1 71 (by decide)
theorem T136 {h : hp} (w : WF h) : hT h 136 = (106, 48) := w.1 72 (by decide)
theorem T137 {h : hp} (w : WF h) : hT h 137 = (10, 5) := w.1 73 (by decide)
theorem T138 {h : hp} (w : WF h) : hT h 138 = (100, 16) := w.1 74 (by decide)
theorem T139 {h : hp} (w : WF h) : hT h 139 = (10, 5) := w.1 75 (by decide)
theorem T140 {h : hp} (w : WF h) : hT h 140 = (100, 16) := w.1 76 (by decide)
theorem T141 {h : hp} (w : WF h) : hT h 141 = (4, 2) := w.1 77 (by decide)
theorem T142 {h : hp} (w : WF h) : hT h 142 = (100, 53) := w.1 78 (by decide)
theorem T143 {h : hp} (w : WF h) : hT h 143 = (4, 2) := w.1 79 (by decide)
theorem T144 {h : hp} (w : WF h) : hT h 144 = (100, 400) := w.1 80 (by decide)
theorem T145 {h : hp} (w : WF h) : hT h 145 = (106, 348) := w.1 81 (by decide)
theorem T146 {h : hp} (w : WF h) : hT h 146 = (100, 348) := w.1 82 (by decide)
theorem T147 {h : hp} (w : WF h) : hT h 147 = (0, 5) := w.1 83 (by decide)
theorem T148 {h : hp} (w : WF h) : hT h 148 = (100, 6) := w.1 84 (by decide)
theorem T149 {h : hp} (w : WF h) : hT h 149 = (0, 5) := w.1 85 (by decide)
theorem T150 {h : hp} (w : WF h) : hT h 150 = (100, 6) := w.1 86 (by decide)
theorem T151 {h : hp} (w : WF h) : hT h 151 = (0, 5) := w.1 87 (by decide)
theorem T152 {h : hp} (w : WF h) : hT h 152 = (100, 6) := w.1 88 (by decide)
theorem T153 {h : hp} (w : WF h) : hT h 153 = (0, 5) := w.1 89 (by decide)
theorem T154 {h : hp} (w : WF h) : hT h 154 = (100, 6) := w.1 90 (by decide)
theorem T155 {h : hp} (w : WF h) : hT h 155 = (0, 5) := w.1 91 (by decide)
theorem T156 {h : hp} (w : WF h) : hT h 156 = (100, 6) := w.1 92 (by decide)
theorem T157 {h : hp} (w : WF h) : hT h 157 = (0, 5) := w.1 93 (by decide)
theorem T158 {h : hp} (w : WF h) : hT h 158 = (100, 6) := w.1 94 (by decide)
theorem T159 {h : hp} (w : WF h) : hT h 159 = (0, 5) := w.1 95 (by decide)
theorem T160 {h : hp} (w : WF h) : hT h 160 = (100, 6) := w.1 96 (by decide)
theorem T161 {h : hp} (w : WF h) : hT h 161 = (0, 5) := w.1 97 (by decide)
theorem T162 {h : hp} (w : WF h) : hT h 162 = (100, 6) := w.1 98 (by decide)
theorem T163 {h : hp} (w : WF h) : hT h 163 = (0, 5) := w.1 99 (by decide)
theorem T164 {h : hp} (w : WF h) : hT h 164 = (100, 6) := w.1 100 (by decide)
theorem T165 {h : hp} (w : WF h) : hT h 165 = (13, 63) := w.1 101 (by decide)
theorem T166 {h : hp} (w : WF h) : hT h 166 = (100, 10) := w.1 102 (by decide)
theorem T167 {h : hp} (w : WF h) : hT h 167 = (100, 10) := w.1 103 (by decide)
theorem T168 {h : hp} (w : WF h) : hT h 168 = (100, 10) := w.1 104 (by decide)
theorem T169 {h : hp} (w : WF h) : hT h 169 = (100, 160) := w.1 105 (by decide)
theorem T170 {h : hp} (w : WF h) : hT h 170 = (101, 10) := w.1 106 (by decide)
theorem T171 {h : hp} (w : WF h) : hT h 171 = (100, 64) := w.1 107 (by decide)
theorem T172 {h : hp} (w : WF h) : hT h 172 = (100, 160) := w.1 108 (by decide)
theorem T173 {h : hp} (w : WF h) : hT h 173 = (100, 960) := w.1 109 (by decide)
theorem T174 {h : hp} (w : WF h) : hT h 174 = (100, 6) := w.1 110 (by decide)
theorem T175 {h : hp} (w : WF h) : hT h 175 = (100, 400) := w.1 111 (by decide)
theorem T176 {h : hp} (w : WF h) : hT h 176 = (100, 400) := w.1 112 (by decide)
theorem T177 {h : hp} (w : WF h) : hT h 177 = (100, 640) := w.1 113 (by decide)
theorem T178 {h : hp} (w : WF h) : hT h 178 = (100, 640) := w.1 114 (by decide)
theorem T179 {h : hp} (w : WF h) : hT h 179 = (100, 640) := w.1 115 (by decide)
theorem T180 {h : hp} (w : WF h) : hT h 180 = (100, 10240) := w.1 116 (by decide)
theorem T181 {h : hp} (w : WF h) : hT h 181 = (101, 640) := w.1 117 (by decide)
theorem T182 {h : hp} (w : WF h) : hT h 182 = (100, 72) := w.1 118 (by decide)
theorem T183 {h : hp} (w : WF h) : hT h 183 = (100, 12) := w.1 119 (by decide)
theorem T184 {h : hp} (w : WF h) : hT h 184 = (100, 12) := w.1 120 (by decide)
theorem T185 {h : hp} (w : WF h) : hT h 185 = (100, 12) := w.1 121 (by decide)
theorem T186 {h : hp} (w : WF h) : hT h 186 = (100, 80) := w.1 122 (by decide)
theorem T187 {h : hp} (w : WF h) : hT h 187 = (100, 480) := w.1 123 (by decide)
theorem T188 {h : hp} (w : WF h) : hT h 188 = (100, 80) := w.1 124 (by decide)
theorem T189 {h : hp} (w : WF h) : hT h 189 = (100, 128) := w.1 125 (by decide)
theorem T190 {h : hp} (w : WF h) : hT h 190 = (100, 128) := w.1 126 (by decide)
theorem T191 {h : hp} (w : WF h) : hT h 191 = (100, 128) := w.1 127 (by decide)
theorem T192 {h : hp} (w : WF h) : hT h 192 = (100, 6) := w.1 128 (by decide)
theorem T193 {h : hp} (w : WF h) : hT h 193 = (100, 6) := w.1 129 (by decide)
theorem T194 {h : hp} (w : WF h) : hT h 194 = (100, 360) := w.1 130 (by decide)
theorem T195 {h : hp} (w : WF h) : hT h 195 = (101, 360) := w.1 131 (by decide)
theorem T196 {h : hp} (w : WF h) : hT h 196 = (100, 6) := w.1 132 (by decide)
theorem T197 {h : hp} (w : WF h) : hT h 197 = (100, 960) := w.1 133 (by decide)
theorem T198 {h : hp} (w : WF h) : hT h 198 = (100, 400) := w.1 134 (by decide)
theorem T199 {h : hp} (w : WF h) : hT h 199 = (100, 8) := w.1 135 (by decide)
theorem T200 {h : hp} (w : WF h) : hT h 200 = (100, 8) := w.1 136 (by decide)
theorem T201 {h : hp} (w : WF h) : hT h 201 = (100, 8) := w.1 137 (by decide)
theorem T202 {h : hp} (w : WF h) : hT h 202 = (100, 128) := w.1 138 (by decide)
theorem T203 {h : hp} (w : WF h) : hT h 203 = (101, 8) := w.1 139 (by decide)
theorem R65_0 {h : hp} (w : WF h) : hR h 65 0 = 66 := w.2.1 (65, 0, 66) (List.mem_of_getElem? (i := 0) rfl)
theorem R65_1 {h : hp} (w : WF h) : hR h 65 1 = 67 := w.2.1 (65, 1, 67) (List.mem_of_getElem? (i := 1) rfl)
theorem R65_2 {h : hp} (w : WF h) : hR h 65 2 = 68 := w.2.1 (65, 2, 68) (List.mem_of_getElem? (i := 2) rfl)
theorem R68_0 {h : hp} (w : WF h) : hR h 68 0 = 69 := w.2.1 (68, 0, 69) (List.mem_of_getElem? (i := 3) rfl)
theorem R66_0 {h : hp} (w : WF h) : hR h 66 0 = 70 := w.2.1 (66, 0, 70) (List.mem_of_getElem? (i := 4) rfl)
theorem R70_4 {h : hp} (w : WF h) : hR h 70 4 = 71 := w.2.1 (70, 4, 71) (List.mem_of_getElem? (i := 5) rfl)
theorem R66_1 {h : hp} (w : WF h) : hR h 66 1 = 72 := w.2.1 (66, 1, 72) (List.mem_of_getElem? (i := 6) rfl)
theorem R72_4 {h : hp} (w : WF h) : hR h 72 4 = 73 := w.2.1 (72, 4, 73) (List.mem_of_getElem? (i := 7) rfl)
theorem R66_2 {h : hp} (w : WF h) : hR h 66 2 = 74 := w.2.1 (66, 2, 74) (List.mem_of_getElem? (i := 8) rfl)
theorem R74_4 {h : hp} (w : WF h) : hR h 74 4 = 75 := w.2.1 (74, 4, 75) (List.mem_of_getElem? (i := 9) rfl)
theorem R66_3 {h : hp} (w : WF h) : hR h 66 3 = 76 := w.2.1 (66, 3, 76) (List.mem_of_getElem? (i := 10) rfl)
theorem R76_4 {h : hp} (w : WF h) : hR h 76 4 = 77 := w.2.1 (76, 4, 77) (List.mem_of_getElem? (i := 11) rfl)
theorem R66_4 {h : hp} (w : WF h) : hR h 66 4 = 78 := w.2.1 (66, 4, 78) (List.mem_of_getElem? (i := 12) rfl)
theorem R78_4 {h : hp} (w : WF h) : hR h 78 4 = 79 := w.2.1 (78, 4, 79) (List.mem_of_getElem? (i := 13) rfl)
theorem R66_5 {h : hp} (w : WF h) : hR h 66 5 = 80 := w.2.1 (66, 5, 80) (List.mem_of_getElem? (i := 14) rfl)
theorem R80_4 {h : hp} (w : WF h) : hR h 80 4 = 81 := w.2.1 (80, 4, 81) (List.mem_of_getElem? (i := 15) rfl)
theorem R66_6 {h : hp} (w : WF h) : hR h 66 6 = 82 := w.2.1 (66, 6, 82) (List.mem_of_getElem? (i := 16) rfl)
theorem R82_4 {h : hp} (w : WF h) : hR h 82 4 = 83 := w.2.1 (82, 4, 83) (List.mem_of_getElem? (i := 17) rfl)
theorem R66_7 {h : hp} (w : WF h) : hR h 66 7 = 84 := w.2.1 (66, 7, 84) (List.mem_of_getElem? (i := 18) rfl)
theorem R84_4 {h : hp} (w : WF h) : hR h 84 4 = 85 := w.2.1 (84, 4, 85) (List.mem_of_getElem? (i := 19) rfl)
theorem R64_0 {h : hp} (w : WF h) : hR h 64 0 = 65 := w.2.1 (64, 0, 65) (List.mem_of_getElem? (i := 20) rfl)
theorem R86_0 {h : hp} (w : WF h) : hR h 86 0 = 87 := w.2.1 (86, 0, 87) (List.mem_of_getElem? (i := 21) rfl)
theorem R64_4 {h : hp} (w : WF h) : hR h 64 4 = 86 := w.2.1 (64, 4, 86) (List.mem_of_getElem? (i := 22) rfl)
theorem R64_9 {h : hp} (w : WF h) : hR h 64 9 = 88 := w.2.1 (64, 9, 88) (List.mem_of_getElem? (i := 23) rfl)
theorem R88_0 {h : hp} (w : WF h) : hR h 88 0 = 89 := w.2.1 (88, 0, 89) (List.mem_of_getElem? (i := 24) rfl)
theorem R89_2 {h : hp} (w : WF h) : hR h 89 2 = 90 := w.2.1 (89, 2, 90) (List.mem_of_getElem? (i := 25) rfl)
theorem R89_3 {h : hp} (w : WF h) : hR h 89 3 = 91 := w.2.1 (89, 3, 91) (List.mem_of_getElem? (i := 26) rfl)
theorem R88_1 {h : hp} (w : WF h) : hR h 88 1 = 92 := w.2.1 (88, 1, 92) (List.mem_of_getElem? (i := 27) rfl)
theorem R92_2 {h : hp} (w : WF h) : hR h 92 2 = 93 := w.2.1 (92, 2, 93) (List.mem_of_getElem? (i := 28) rfl)
theorem R92_3 {h : hp} (w : WF h) : hR h 92 3 = 94 := w.2.1 (92, 3, 94) (List.mem_of_getElem? (i := 29) rfl)
theorem R88_2 {h : hp} (w : WF h) : hR h 88 2 = 95 := w.2.1 (88, 2, 95) (List.mem_of_getElem? (i := 30) rfl)
theorem R95_2 {h : hp} (w : WF h) : hR h 95 2 = 96 := w.2.1 (95, 2, 96) (List.mem_of_getElem? (i := 31) rfl)
theorem R95_3 {h : hp} (w : WF h) : hR h 95 3 = 97 := w.2.1 (95, 3, 97) (List.mem_of_getElem? (i := 32) rfl)
theorem R88_3 {h : hp} (w : WF h) : hR h 88 3 = 98 := w.2.1 (88, 3, 98) (List.mem_of_getElem? (i := 33) rfl)
theorem R98_2 {h : hp} (w : WF h) : hR h 98 2 = 99 := w.2.1 (98, 2, 99) (List.mem_of_getElem? (i := 34) rfl)
theorem R98_3 {h : hp} (w : WF h) : hR h 98 3 = 100 := w.2.1 (98, 3, 100) (List.mem_of_getElem? (i := 35) rfl)
theorem R88_4 {h : hp} (w : WF h) : hR h 88 4 = 101 := w.2.1 (88, 4, 101) (List.mem_of_getElem? (i := 36) rfl)
theorem R101_2 {h : hp} (w : WF h) : hR h 101 2 = 102 := w.2.1 (101, 2, 102) (List.mem_of_getElem? (i := 37) rfl)
theorem R101_3 {h : hp} (w : WF h) : hR h 101 3 = 103 := w.2.1 (101, 3, 103) (List.mem_of_getElem? (i := 38) rfl)
theorem R88_5 {h : hp} (w : WF h) : hR h 88 5 = 104 := w.2.1 (88, 5, 104) (List.mem_of_getElem? (i := 39) rfl)
theorem R104_2 {h : hp} (w : WF h) : hR h 104 2 = 105 := w.2.1 (104, 2, 105) (List.mem_of_getElem? (i := 40) rfl)
theorem R104_3 {h : hp} (w : WF h) : hR h 104 3 = 106 := w.2.1 (104, 3, 106) (List.mem_of_getElem? (i := 41) rfl)
theorem R107_0 {h : hp} (w : WF h) : hR h 107 0 = 108 := w.2.1 (107, 0, 108) (List.mem_of_getElem? (i := 42) rfl)
theorem R107_1 {h : hp} (w : WF h) : hR h 107 1 = 109 := w.2.1 (107, 1, 109) (List.mem_of_getElem? (i := 43) rfl)
theorem R107_2 {h : hp} (w : WF h) : hR h 107 2 = 110 := w.2.1 (107, 2, 110) (List.mem_of_getElem? (i := 44) rfl)
theorem R110_0 {h : hp} (w : WF h) : hR h 110 0 = 111 := w.2.1 (110, 0, 111) (List.mem_of_getElem? (i := 45) rfl)
theorem R108_0 {h : hp} (w : WF h) : hR h 108 0 = 112 := w.2.1 (108, 0, 112) (List.mem_of_getElem? (i := 46) rfl)
theorem R112_4 {h : hp} (w : WF h) : hR h 112 4 = 113 := w.2.1 (112, 4, 113) (List.mem_of_getElem? (i := 47) rfl)
theorem R108_1 {h : hp} (w : WF h) : hR h 108 1 = 114 := w.2.1 (108, 1, 114) (List.mem_of_getElem? (i := 48) rfl)
theorem R114_4 {h : hp} (w : WF h) : hR h 114 4 = 115 := w.2.1 (114, 4, 115) (List.mem_of_getElem? (i := 49) rfl)
theorem R108_2 {h : hp} (w : WF h) : hR h 108 2 = 116 := w.2.1 (108, 2, 116) (List.mem_of_getElem? (i := 50) rfl)
theorem R116_4 {h : hp} (w : WF h) : hR h 116 4 = 117 := w.2.1 (116, 4, 117) (List.mem_of_getElem? (i := 51) rfl)
theorem R108_3 {h : hp} (w : WF h) : hR h 108 3 = 118 := w.2.1 (108, 3, 118) (List.mem_of_getElem? (i := 52) rfl)
theorem R118_4 {h : hp} (w : WF h) : hR h 118 4 = 119 := w.2.1 (118, 4, 119) (List.mem_of_getElem? (i := 53) rfl)
theorem R108_4 {h : hp} (w : WF h) : hR h 108 4 = 120 := w.2.1 (108, 4, 120) (List.mem_of_getElem? (i := 54) rfl)
theorem R120_4 {h : hp} (w : WF h) : hR h 120 4 = 121 := w.2.1 (120, 4, 121) (List.mem_of_getElem? (i := 55) rfl)
theorem R108_5 {h : hp} (w : WF h) : hR h 108 5 = 122 := w.2.1 (108, 5, 122) (List.mem_of_getElem? (i := 56) rfl)
theorem R122_4 {h : hp} (w : WF h) : hR h 122 4 = 123 := w.2.1 (122, 4, 123) (List.mem_of_getElem? (i := 57) rfl)
theorem R108_6 {h : hp} (w : WF h) : hR h 108 6 = 124 := w.2.1 (108, 6, 124) (List.mem_of_getElem? (i := 58) rfl)
theorem R124_4 {h : hp} (w : WF h) : hR h 124 4 = 125 := w.2.1 (124, 4, 125) (List.mem_of_getElem? (i := 59) rfl)
theorem R108_7 {h : hp} (w : WF h) : hR h 108 7 = 126 := w.2.1 (108, 7, 126) (List.mem_of_getElem? (i := 60) rfl)
theorem R126_4 {h : hp} (w : WF h) : hR h 126 4 = 127 := w.2.1 (126, 4, 127) (List.mem_of_getElem? (i := 61) rfl)
theorem R64_1 {h : hp} (w : WF h) : hR h 64 1 = 107 := w.2.1 (64, 1, 107) (List.mem_of_getElem? (i := 62) rfl)
theorem R128_0 {h : hp} (w : WF h) : hR h 128 0 = 129 := w.2.1 (128, 0, 129) (List.mem_of_getElem? (i := 63) rfl)
theorem R64_3 {h : hp} (w : WF h) : hR h 64 3 = 128 := w.2.1 (64, 3, 128) (List.mem_of_getElem? (i := 64) rfl)
theorem R130_0 {h : hp} (w : WF h) : hR h 130 0 = 131 := w.2.1 (130, 0, 131) (List.mem_of_getElem? (i := 65) rfl)
theorem R64_5 {h : hp} (w : WF h) : hR h 64 5 = 130 := w.2.1 (64, 5, 130) (List.mem_of_getElem? (i := 66) rfl)
theorem R132_4 {h : hp} (w : WF h) : hR h 132 4 = 133 := w.2.1 (132, 4, 133) (List.mem_of_getElem? (i := 67) rfl)
theorem R64_6 {h : hp} (w : WF h) : hR h 64 6 = 132 := w.2.1 (64, 6, 132) (List.mem_of_getElem? (i := 68) rfl)
theorem R64_7 {h : hp} (w : WF h) : hR h 64 7 = 134 := w.2.1 (64, 7, 134) (List.mem_of_getElem? (i := 69) rfl)
theorem R134_2 {h : hp} (w : WF h) : hR h 134 2 = 135 := w.2.1 (134, 2, 135) (List.mem_of_getElem? (i := 70) rfl)
theorem R134_3 {h : hp} (w : WF h) : hR h 134 3 = 136 := w.2.1 (134, 3, 136) (List.mem_of_getElem? (i := 71) rfl)
theorem R134_4 {h : hp} (w : WF h) : hR h 134 4 = 137 := w.2.1 (134, 4, 137) (List.mem_of_getElem? (i := 72) rfl)
theorem R137_4 {h : hp} (w : WF h) : hR h 137 4 = 138 := w.2.1 (137, 4, 138) (List.mem_of_getElem? (i := 73) rfl)
theorem R134_5 {h : hp} (w : WF h) : hR h 134 5 = 139 := w.2.1 (134, 5, 139) (List.mem_of_getElem? (i := 74) rfl)
theorem R139_4 {h : hp} (w : WF h) : hR h 139 4 = 140 := w.2.1 (139, 4, 140) (List.mem_of_getElem? (i := 75) rfl)
theorem R134_6 {h : hp} (w : WF h) : hR h 134 6 = 141 := w.2.1 (134, 6, 141) (List.mem_of_getElem? (i := 76) rfl)
theorem R141_0 {h : hp} (w : WF h) : hR h 141 0 = 142 := w.2.1 (141, 0, 142) (List.mem_of_getElem? (i := 77) rfl)
theorem R134_7 {h : hp} (w : WF h) : hR h 134 7 = 143 := w.2.1 (134, 7, 143) (List.mem_of_getElem? (i := 78) rfl)
theorem R143_0 {h : hp} (w : WF h) : hR h 143 0 = 144 := w.2.1 (143, 0, 144) (List.mem_of_getElem? (i := 79) rfl)
theorem R134_8 {h : hp} (w : WF h) : hR h 134 8 = 145 := w.2.1 (134, 8, 145) (List.mem_of_getElem? (i := 80) rfl)
theorem R134_9 {h : hp} (w : WF h) : hR h 134 9 = 146 := w.2.1 (134, 9, 146) (List.mem_of_getElem? (i := 81) rfl)
theorem R134_0 {h : hp} (w : WF h) : hR h 134 0 = 65 := w.2.1 (134, 0, 65) (List.mem_of_getElem? (i := 82) rfl)
theorem R134_1 {h : hp} (w : WF h) : hR h 134 1 = 86 := w.2.1 (134, 1, 86) (List.mem_of_getElem? (i := 83) rfl)
theorem R135_0 {h : hp} (w : WF h) : hR h 135 0 = 147 := w.2.1 (135, 0, 147) (List.mem_of_getElem? (i := 84) rfl)
theorem R147_0 {h : hp} (w : WF h) : hR h 147 0 = 148 := w.2.1 (147, 0, 148) (List.mem_of_getElem? (i := 85) rfl)
theorem R135_1 {h : hp} (w : WF h) : hR h 135 1 = 149 := w.2.1 (135, 1, 149) (List.mem_of_getElem? (i := 86) rfl)
theorem R149_0 {h : hp} (w : WF h) : hR h 149 0 = 150 := w.2.1 (149, 0, 150) (List.mem_of_getElem? (i := 87) rfl)
theorem R135_2 {h : hp} (w : WF h) : hR h 135 2 = 151 := w.2.1 (135, 2, 151) (List.mem_of_getElem? (i := 88) rfl)
theorem R151_0 {h : hp} (w : WF h) : hR h 151 0 = 152 := w.2.1 (151, 0, 152) (List.mem_of_getElem? (i := 89) rfl)
theorem R135_3 {h : hp} (w : WF h) : hR h 135 3 = 153 := w.2.1 (135, 3, 153) (List.mem_of_getElem? (i := 90) rfl)
theorem R153_0 {h : hp} (w : WF h) : hR h 153 0 = 154 := w.2.1 (153, 0, 154) (List.mem_of_getElem? (i := 91) rfl)
theorem R135_4 {h : hp} (w : WF h) : hR h 135 4 = 155 := w.2.1 (135, 4, 155) (List.mem_of_getElem? (i := 92) rfl)
theorem R155_0 {h : hp} (w : WF h) : hR h 155 0 = 156 := w.2.1 (155, 0, 156) (List.mem_of_getElem? (i := 93) rfl)
theorem R135_5 {h : hp} (w : WF h) : hR h 135 5 = 157 := w.2.1 (135, 5, 157) (List.mem_of_getElem? (i := 94) rfl)
theorem R157_0 {h : hp} (w : WF h) : hR h 157 0 = 158 := w.2.1 (157, 0, 158) (List.mem_of_getElem? (i := 95) rfl)
theorem R135_6 {h : hp} (w : WF h) : hR h 135 6 = 159 := w.2.1 (135, 6, 159) (List.mem_of_getElem? (i := 96) rfl)
theorem R159_0 {h : hp} (w : WF h) : hR h 159 0 = 160 := w.2.1 (159, 0, 160) (List.mem_of_getElem? (i := 97) rfl)
theorem R135_7 {h : hp} (w : WF h) : hR h 135 7 = 161 := w.2.1 (135, 7, 161) (List.mem_of_getElem? (i := 98) rfl)
theorem R161_0 {h : hp} (w : WF h) : hR h 161 0 = 162 := w.2.1 (161, 0, 162) (List.mem_of_getElem? (i := 99) rfl)
theorem R135_8 {h : hp} (w : WF h) : hR h 135 8 = 163 := w.2.1 (135, 8, 163) (List.mem_of_getElem? (i := 100) rfl)
theorem R163_0 {h : hp} (w : WF h) : hR h 163 0 = 164 := w.2.1 (163, 0, 164) (List.mem_of_getElem? (i := 101) rfl)
theorem R165_0 {h : hp} (w : WF h) : hR h 165 0 = 166 := w.2.1 (165, 0, 166) (List.mem_of_getElem? (i := 102) rfl)
theorem R165_1 {h : hp} (w : WF h) : hR h 165 1 = 167 := w.2.1 (165, 1, 167) (List.mem_of_getElem? (i := 103) rfl)
theorem R165_2 {h : hp} (w : WF h) : hR h 165 2 = 168 := w.2.1 (165, 2, 168) (List.mem_of_getElem? (i := 104) rfl)
theorem R165_3 {h : hp} (w : WF h) : hR h 165 3 = 169 := w.2.1 (165, 3, 169) (List.mem_of_getElem? (i := 105) rfl)
theorem R165_4 {h : hp} (w : WF h) : hR h 165 4 = 170 := w.2.1 (165, 4, 170) (List.mem_of_getElem? (i := 106) rfl)
theorem R165_5 {h : hp} (w : WF h) : hR h 165 5 = 171 := w.2.1 (165, 5, 171) (List.mem_of_getElem? (i := 107) rfl)
theorem R165_7 {h : hp} (w : WF h) : hR h 165 7 = 172 := w.2.1 (165, 7, 172) (List.mem_of_getElem? (i := 108) rfl)
theorem R165_8 {h : hp} (w : WF h) : hR h 165 8 = 173 := w.2.1 (165, 8, 173) (List.mem_of_getElem? (i := 109) rfl)
theorem R165_9 {h : hp} (w : WF h) : hR h 165 9 = 174 := w.2.1 (165, 9, 174) (List.mem_of_getElem? (i := 110) rfl)
theorem R165_19 {h : hp} (w : WF h) : hR h 165 19 = 175 := w.2.1 (165, 19, 175) (List.mem_of_getElem? (i := 111) rfl)
theorem R165_20 {h : hp} (w : WF h) : hR h 165 20 = 176 := w.2.1 (165, 20, 176) (List.mem_of_getElem? (i := 112) rfl)
theorem R165_25 {h : hp} (w : WF h) : hR h 165 25 = 177 := w.2.1 (165, 25, 177) (List.mem_of_getElem? (i := 113) rfl)
theorem R165_26 {h : hp} (w : WF h) : hR h 165 26 = 178 := w.2.1 (165, 26, 178) (List.mem_of_getElem? (i := 114) rfl)
theorem R165_27 {h : hp} (w : WF h) : hR h 165 27 = 179 := w.2.1 (165, 27, 179) (List.mem_of_getElem? (i := 115) rfl)
theorem R165_28 {h : hp} (w : WF h) : hR h 165 28 = 180 := w.2.1 (165, 28, 180) (List.mem_of_getElem? (i := 116) rfl)
theorem R165_29 {h : hp} (w : WF h) : hR h 165 29 = 181 := w.2.1 (165, 29, 181) (List.mem_of_getElem? (i := 117) rfl)
theorem R165_31 {h : hp} (w : WF h) : hR h 165 31 = 182 := w.2.1 (165, 31, 182) (List.mem_of_getElem? (i := 118) rfl)
theorem R165_32 {h : hp} (w : WF h) : hR h 165 32 = 183 := w.2.1 (165, 32, 183) (List.mem_of_getElem? (i := 119) rfl)
theorem R165_33 {h : hp} (w : WF h) : hR h 165 33 = 184 := w.2.1 (165, 33, 184) (List.mem_of_getElem? (i := 120) rfl)
theorem R165_34 {h : hp} (w : WF h) : hR h 165 34 = 185 := w.2.1 (165, 34, 185) (List.mem_of_getElem? (i := 121) rfl)
theorem R165_39 {h : hp} (w : WF h) : hR h 165 39 = 186 := w.2.1 (165, 39, 186) (List.mem_of_getElem? (i := 122) rfl)
theorem R165_40 {h : hp} (w : WF h) : hR h 165 40 = 187 := w.2.1 (165, 40, 187) (List.mem_of_getElem? (i := 123) rfl)
theorem R165_41 {h : hp} (w : WF h) : hR h 165 41 = 188 := w.2.1 (165, 41, 188) (List.mem_of_getElem? (i := 124) rfl)
theorem R165_44 {h : hp} (w : WF h) : hR h 165 44 = 189 := w.2.1 (165, 44, 189) (List.mem_of_getElem? (i := 125) rfl)
theorem R165_45 {h : hp} (w : WF h) : hR h 165 45 = 190 := w.2.1 (165, 45, 190) (List.mem_of_getElem? (i := 126) rfl)
theorem R165_46 {h : hp} (w : WF h) : hR h 165 46 = 191 := w.2.1 (165, 46, 191) (List.mem_of_getElem? (i := 127) rfl)
theorem R165_48 {h : hp} (w : WF h) : hR h 165 48 = 192 := w.2.1 (165, 48, 192) (List.mem_of_getElem? (i := 128) rfl)
theorem R165_49 {h : hp} (w : WF h) : hR h 165 49 = 193 := w.2.1 (165, 49, 193) (List.mem_of_getElem? (i := 129) rfl)
theorem R165_50 {h : hp} (w : WF h) : hR h 165 50 = 194 := w.2.1 (165, 50, 194) (List.mem_of_getElem? (i := 130) rfl)
theorem R165_51 {h : hp} (w : WF h) : hR h 165 51 = 195 := w.2.1 (165, 51, 195) (List.mem_of_getElem? (i := 131) rfl)
theorem R165_52 {h : hp} (w : WF h) : hR h 165 52 = 196 := w.2.1 (165, 52, 196) (List.mem_of_getElem? (i := 132) rfl)
theorem R165_53 {h : hp} (w : WF h) : hR h 165 53 = 197 := w.2.1 (165, 53, 197) (List.mem_of_getElem? (i := 133) rfl)
theorem R165_54 {h : hp} (w : WF h) : hR h 165 54 = 198 := w.2.1 (165, 54, 198) (List.mem_of_getElem? (i := 134) rfl)
theorem R165_55 {h : hp} (w : WF h) : hR h 165 55 = 199 := w.2.1 (165, 55, 199) (List.mem_of_getElem? (i := 135) rfl)
theorem R165_56 {h : hp} (w : WF h) : hR h 165 56 = 200 := w.2.1 (165, 56, 200) (List.mem_of_getElem? (i := 136) rfl)
theorem R165_57 {h : hp} (w : WF h) : hR h 165 57 = 201 := w.2.1 (165, 57, 201) (List.mem_of_getElem? (i := 137) rfl)
theorem R165_58 {h : hp} (w : WF h) : hR h 165 58 = 202 := w.2.1 (165, 58, 202) (List.mem_of_getElem? (i := 138) rfl)
theorem R165_59 {h : hp} (w : WF h) : hR h 165 59 = 203 := w.2.1 (165, 59, 203) (List.mem_of_getElem? (i := 139) rfl)
theorem NO_sheet {h : hp} (w : WF h) : NO h 68 69 400 := ⟨T68 w, T69 w, R68_0 w, by decide, by decide⟩
theorem NO_links {h : hp} (w : WF h) : NO h 86 87 162 := ⟨T86 w, T87 w, R86_0 w, by decide, by decide⟩
theorem NO_sheetK {h : hp} (w : WF h) : NO h 110 111 400 := ⟨T110 w, T111 w, R110_0 w, by decide, by decide⟩
theorem NO_tape {h : hp} (w : WF h) : NO h 128 129 160 := ⟨T128 w, T129 w, R128_0 w, by decide, by decide⟩
theorem NO_figs {h : hp} (w : WF h) : NO h 130 131 53 := ⟨T130 w, T131 w, R130_0 w, by decide, by decide⟩
theorem NO_shown {h : hp} (w : WF h) : NO h 141 142 53 := ⟨T141 w, T142 w, R141_0 w, by decide, by decide⟩
theorem NO_out {h : hp} (w : WF h) : NO h 143 144 400 := ⟨T143 w, T144 w, R143_0 w, by decide, by decide⟩
theorem VO_work {h : hp} (w : WF h) : VO h 132 133 := ⟨T132 w, T133 w, R132_4 w, by decide⟩
theorem VO_left {h : hp} (w : WF h) : VO h 137 138 := ⟨T137 w, T138 w, R137_4 w, by decide⟩
theorem VO_right {h : hp} (w : WF h) : VO h 139 140 := ⟨T139 w, T140 w, R139_4 w, by decide⟩
theorem VO_val {h : hp} (w : WF h) {v : Nat} (hv : v < 8) : VO h (70 + 2 * v) (71 + 2 * v) := by
  match v, hv with
  | 0, _ => exact ⟨T70 w, T71 w, R70_4 w, by decide⟩
  | 1, _ => exact ⟨T72 w, T73 w, R72_4 w, by decide⟩
  | 2, _ => exact ⟨T74 w, T75 w, R74_4 w, by decide⟩
  | 3, _ => exact ⟨T76 w, T77 w, R76_4 w, by decide⟩
  | 4, _ => exact ⟨T78 w, T79 w, R78_4 w, by decide⟩
  | 5, _ => exact ⟨T80 w, T81 w, R80_4 w, by decide⟩
  | 6, _ => exact ⟨T82 w, T83 w, R82_4 w, by decide⟩
  | 7, _ => exact ⟨T84 w, T85 w, R84_4 w, by decide⟩
  | v + 8, hv => omega
theorem Rval {h : hp} (w : WF h) {v : Nat} (hv : v < 8) : hR h 66 v = 70 + 2 * v := by
  match v, hv with
  | 0, _ => exact R66_0 w
  | 1, _ => exact R66_1 w
  | 2, _ => exact R66_2 w
  | 3, _ => exact R66_3 w
  | 4, _ => exact R66_4 w
  | 5, _ => exact R66_5 w
  | 6, _ => exact R66_6 w
  | 7, _ => exact R66_7 w
  | v + 8, hv => omega
theorem VO_valK {h : hp} (w : WF h) {v : Nat} (hv : v < 8) : VO h (112 + 2 * v) (113 + 2 * v) := by
  match v, hv with
  | 0, _ => exact ⟨T112 w, T113 w, R112_4 w, by decide⟩
  | 1, _ => exact ⟨T114 w, T115 w, R114_4 w, by decide⟩
  | 2, _ => exact ⟨T116 w, T117 w, R116_4 w, by decide⟩
  | 3, _ => exact ⟨T118 w, T119 w, R118_4 w, by decide⟩
  | 4, _ => exact ⟨T120 w, T121 w, R120_4 w, by decide⟩
  | 5, _ => exact ⟨T122 w, T123 w, R122_4 w, by decide⟩
  | 6, _ => exact ⟨T124 w, T125 w, R124_4 w, by decide⟩
  | 7, _ => exact ⟨T126 w, T127 w, R126_4 w, by decide⟩
  | v + 8, hv => omega
theorem RvalK {h : hp} (w : WF h) {v : Nat} (hv : v < 8) : hR h 108 v = 112 + 2 * v := by
  match v, hv with
  | 0, _ => exact R108_0 w
  | 1, _ => exact R108_1 w
  | 2, _ => exact R108_2 w
  | 3, _ => exact R108_3 w
  | 4, _ => exact R108_4 w
  | 5, _ => exact R108_5 w
  | 6, _ => exact R108_6 w
  | 7, _ => exact R108_7 w
  | v + 8, hv => omega
theorem Rrow {h : hp} (w : WF h) {v : Nat} (hv : v < 6) : hR h 88 v = 89 + 3 * v := by
  match v, hv with
  | 0, _ => exact R88_0 w
  | 1, _ => exact R88_1 w
  | 2, _ => exact R88_2 w
  | 3, _ => exact R88_3 w
  | 4, _ => exact R88_4 w
  | 5, _ => exact R88_5 w
  | v + 6, hv => omega
theorem RO_row {h : hp} (w : WF h) {v : Nat} (hv : v < 6) : hT h (89 + 3 * v) = (7, 4) ∧ hT h (90 + 3 * v) = (100, 60) ∧ hT h (91 + 3 * v) = (101, 60) ∧ hR h (89 + 3 * v) 2 = 90 + 3 * v ∧ hR h (89 + 3 * v) 3 = 91 + 3 * v := by
  match v, hv with
  | 0, _ => exact ⟨T89 w, T90 w, T91 w, R89_2 w, R89_3 w⟩
  | 1, _ => exact ⟨T92 w, T93 w, T94 w, R92_2 w, R92_3 w⟩
  | 2, _ => exact ⟨T95 w, T96 w, T97 w, R95_2 w, R95_3 w⟩
  | 3, _ => exact ⟨T98 w, T99 w, T100 w, R98_2 w, R98_3 w⟩
  | 4, _ => exact ⟨T101 w, T102 w, T103 w, R101_2 w, R101_3 w⟩
  | 5, _ => exact ⟨T104 w, T105 w, T106 w, R104_2 w, R104_3 w⟩
  | v + 6, hv => omega
theorem RO_chain {h : hp} (w : WF h) {v : Nat} (hv : v < 9) : hR h 135 v = 147 + 2 * v ∧ hT h (147 + 2 * v) = (0, 5) ∧ hT h (148 + 2 * v) = (100, 6) ∧ hR h (147 + 2 * v) 0 = 148 + 2 * v := by
  match v, hv with
  | 0, _ => exact ⟨R135_0 w, T147 w, T148 w, R147_0 w⟩
  | 1, _ => exact ⟨R135_1 w, T149 w, T150 w, R149_0 w⟩
  | 2, _ => exact ⟨R135_2 w, T151 w, T152 w, R151_0 w⟩
  | 3, _ => exact ⟨R135_3 w, T153 w, T154 w, R153_0 w⟩
  | 4, _ => exact ⟨R135_4 w, T155 w, T156 w, R155_0 w⟩
  | 5, _ => exact ⟨R135_5 w, T157 w, T158 w, R157_0 w⟩
  | 6, _ => exact ⟨R135_6 w, T159 w, T160 w, R159_0 w⟩
  | 7, _ => exact ⟨R135_7 w, T161 w, T162 w, R161_0 w⟩
  | 8, _ => exact ⟨R135_8 w, T163 w, T164 w, R163_0 w⟩
  | v + 9, hv => omega
theorem WF_pI {h : hp} {a k : Nat} {v : Int32} (w : WF h) : WF (pI h a k v) := w
theorem WF_pF {h : hp} {a k : Nat} {v : UInt32} (w : WF h) : WF (pF h a k v) := w
theorem WF_pCI {h : hp} {a0 sp a dp n : Nat} (w : WF h) : WF (pCI h a0 sp a dp n) := w
theorem WF_pCF {h : hp} {a0 sp a dp n : Nat} (w : WF h) : WF (pCF h a0 sp a dp n) := w
theorem WF_pR {h : hp} {a k v : Nat} (w : WF h) (hq : ∀ q ∈ R0l, ¬ (q.1 = a ∧ q.2.1 = k)) : WF (pR h a k v) := ⟨w.1, fun q hm => by rw [hR_pR, if_neg (hq q hm)]; exact w.2.1 q hm, w.2.2⟩
theorem WF_nw {h : hp} {t n : Nat} (w : WF h) : WF (nw h t n) := ⟨fun i hi => by rw [hT_nw]; show (if 64 + i = 64 + hN h then (t, n) else hT h (64 + i)) = _; rw [if_neg (by have := w.2.2; omega)]; exact w.1 i hi, w.2.1, by rw [hN_nw]; have := w.2.2; omega⟩
/-- the same but for ints, floats (of the same objects, none of them new) and references outside the fixed ones -/
theorem WF_same {h h' : hp} (w : WF h) (e1 : hT h' = hT h) (e2 : hR h' = hR h) (e3 : hN h' = hN h) : WF h' := ⟨by rw [e1]; exact w.1, by unfold WT; rw [e2]; exact w.2.1, by rw [e3]; exact w.2.2⟩

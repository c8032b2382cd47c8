/-! Blocks: 0-70 -/
theorem zs0 : zms 0 = some (7, 2, false, 1, [], true, none) := by rfl
theorem zs1 : zms 1 = some (4, 1, false, 1, [], true, none) := by rfl
theorem zs2 : zms 2 = some (0, 1, false, 1, [], true, none) := by rfl
theorem zs3 : zms 3 = some (2, 2, false, 1, [], true, none) := by rfl
theorem zs4 : zms 4 = some (6, 1, false, 1, [], true, none) := by rfl
theorem zs5 : zms 5 = some (6, 2, false, 2, [], false, none) := by rfl
theorem zs6 : zms 6 = some (6, 2, false, 2, [], false, none) := by rfl
theorem zs7 : zms 7 = some (7, 3, true, 3, [], false, (some .boolean)) := by rfl
theorem zs8 : zms 8 = some (1, 1, false, 1, [], true, none) := by rfl
theorem zs9 : zms 9 = some (5, 1, false, 1, [], true, none) := by rfl
theorem zs10 : zms 10 = some (3, 1, false, 1, [], true, none) := by rfl
theorem zs11 : zms 11 = some (7, 4, false, 4, [], false, (some .int)) := by rfl
theorem zs12 : zms 12 = some (4, 2, false, 2, [], false, (some .boolean)) := by rfl
theorem zs13 : zms 13 = some (4, 2, false, 2, [], false, (some .int)) := by rfl
theorem zs14 : zms 14 = some (4, 2, false, 2, [], false, (some .int)) := by rfl
theorem zs15 : zms 15 = some (9, 1, true, 1, [], false, (some .int)) := by rfl
theorem zs16 : zms 16 = some (7, 4, false, 4, [], false, (some .int)) := by rfl
theorem zs17 : zms 17 = some (7, 3, false, 2, [], false, (some .int)) := by rfl
theorem zs18 : zms 18 = some (7, 5, false, 4, [], false, (some .int)) := by rfl
theorem zs19 : zms 19 = some (4, 2, false, 2, [], false, (some .boolean)) := by rfl
theorem zs20 : zms 20 = some (7, 3, false, 3, [], false, (some .int)) := by rfl
theorem zs21 : zms 21 = some (4, 4, false, 3, [], false, (some .int)) := by rfl
theorem zs22 : zms 22 = some (7, 3, false, 3, [], false, (some .int)) := by rfl
theorem zs23 : zms 23 = some (7, 3, false, 3, [], false, (some .int)) := by rfl
theorem zs24 : zms 24 = some (0, 5, false, 3, [], false, (some .int)) := by rfl
theorem zs25 : zms 25 = some (2, 3, false, 3, [], false, (some .int)) := by rfl
theorem zs26 : zms 26 = some (2, 3, false, 3, [], false, none) := by rfl
theorem zs27 : zms 27 = some (2, 9, false, 3, [], false, (some .int)) := by rfl
theorem zs28 : zms 28 = some (2, 2, true, 2, [], false, (some .int)) := by rfl
theorem zs29 : zms 29 = some (2, 3, true, 3, [], false, (some .int)) := by rfl
theorem zs30 : zms 30 = some (7, 3, true, 3, [], false, (some .int)) := by rfl
theorem zs31 : zms 31 = some (7, 3, false, 3, [], false, (some .int)) := by rfl
theorem zs32 : zms 32 = some (4, 4, false, 2, [], false, (some .int)) := by rfl
theorem zs33 : zms 33 = some (4, 5, false, 2, [], false, (some .int)) := by rfl
theorem zs34 : zms 34 = some (4, 9, false, 3, [], false, (some .int)) := by rfl
theorem zs35 : zms 35 = some (2, 3, false, 3, [], false, (some .int)) := by rfl
theorem zs36 : zms 36 = some (7, 3, false, 3, [], false, (some .int)) := by rfl
theorem zs37 : zms 37 = some (7, 3, false, 3, [], false, (some .int)) := by rfl
theorem zs38 : zms 38 = some (2, 6, false, 6, [], false, (some .int)) := by rfl
theorem zs39 : zms 39 = some (0, 6, false, 5, [], false, (some .int)) := by rfl
theorem zs40 : zms 40 = some (0, 2, true, 2, [], false, (some .int)) := by rfl
theorem zs41 : zms 41 = some (7, 2, false, 2, [], false, (some .int)) := by rfl
theorem zs42 : zms 42 = some (5, 2, false, 2, [], false, (some .boolean)) := by rfl
theorem zs43 : zms 43 = some (7, 2, false, 1, [], false, (some .int)) := by rfl
theorem zs44 : zms 44 = some (5, 2, false, 1, [], false, (some .int)) := by rfl
theorem zs45 : zms 45 = some (6, 1, false, 1, [], false, none) := by rfl
theorem zs46 : zms 46 = some (5, 1, false, 1, [], false, none) := by rfl
theorem zs47 : zms 47 = some (5, 1, true, 1, [], false, (some .boolean)) := by rfl
theorem zs48 : zms 48 = some (5, 2, false, 1, [], false, none) := by rfl
theorem zs49 : zms 49 = some (5, 1, true, 1, [], false, (some (.object "java/lang/String"))) := by rfl
theorem zs50 : zms 50 = some (5, 3, false, 2, [], false, (some .boolean)) := by rfl
theorem zs51 : zms 51 = some (11, 1, false, 1, [], false, (some .int)) := by rfl
theorem zs52 : zms 52 = some (11, 1, false, 1, [], false, (some .byte)) := by rfl
theorem zs53 : zms 53 = some (11, 2, false, 2, [], false, (some .char)) := by rfl
theorem zs54 : zms 54 = some (11, 1, false, 1, [], false, (some .boolean)) := by rfl
theorem zs55 : zms 55 = some (12, 2, true, 2, [], false, (some .char)) := by rfl
theorem zs56 : zms 56 = some (11, 2, true, 2, [], false, none) := by rfl
theorem zs57 : zms 57 = some (14, 3, true, 3, [], false, (some .int)) := by rfl
theorem zs58 : zms 58 = some (5, 1, true, 1, [], false, (some .boolean)) := by rfl
theorem zs59 : zms 59 = some (5, 1, false, 1, [], false, none) := by rfl
theorem zs60 : zms 60 = some (5, 1, true, 1, [], false, (some .boolean)) := by rfl
theorem zs61 : zms 61 = some (5, 2, false, 2, [], false, none) := by rfl
theorem zs62 : zms 62 = some (5, 1, false, 1, [], false, none) := by rfl
theorem zs63 : zms 63 = some (5, 2, false, 1, [], false, none) := by rfl
theorem zs64 : zms 64 = some (5, 2, false, 1, [], false, none) := by rfl
theorem zs65 : zms 65 = some (5, 2, false, 1, [], false, none) := by rfl
theorem zs66 : zms 66 = some (5, 1, false, 1, [], false, (some .boolean)) := by rfl
theorem zs67 : zms 67 = some (5, 3, false, 1, [], false, none) := by rfl
theorem zs68 : zms 68 = some (5, 2, false, 1, [], false, none) := by rfl
theorem zs69 : zms 69 = some (5, 1, false, 1, [], false, none) := by rfl
theorem zs70 : zms 70 = some (2, 2, false, 2, [], false, (some .int)) := by rfl
theorem zs71 : zms 71 = some (6, 2, false, 2, [], false, none) := by rfl
theorem zs72 : zms 72 = some (7, 3, false, 2, [], false, (some .int)) := by rfl
theorem zs73 : zms 73 = some (7, 3, false, 3, [], false, (some .int)) := by rfl
theorem zs74 : zms 74 = some (0, 14, false, 4, [], false, (some .int)) := by rfl
theorem zs75 : zms 75 = some (0, 5, false, 5, [], false, none) := by rfl
theorem zs76 : zms 76 = some (7, 3, false, 3, [], false, (some .int)) := by rfl
theorem zs77 : zms 77 = some (1, 7, false, 3, [], false, (some .boolean)) := by rfl
theorem zs78 : zms 78 = some (0, 9, false, 5, [], false, (some .int)) := by rfl
theorem zs79 : zms 79 = some (7, 1, false, 1, [], false, (some .int)) := by rfl
theorem zs80 : zms 80 = some (0, 4, false, 2, [], false, none) := by rfl
theorem zs81 : zms 81 = some (4, 3, false, 1, [], false, (some .int)) := by rfl
theorem zs82 : zms 82 = some (7, 5, false, 4, [], false, (some .int)) := by rfl
theorem zs83 : zms 83 = some (4, 2, false, 2, [], false, none) := by rfl
theorem zs84 : zms 84 = some (7, 6, false, 5, [], false, (some .int)) := by rfl
theorem zs85 : zms 85 = some (7, 2, false, 2, [], false, none) := by rfl
theorem zs86 : zms 86 = some (1, 3, false, 2, [], false, none) := by rfl
theorem zs87 : zms 87 = some (7, 9, false, 4, [], false, (some .int)) := by rfl
theorem zs88 : zms 88 = some (1, 3, false, 1, [], false, (some .int)) := by rfl
theorem zs89 : zms 89 = some (1, 5, false, 1, [], false, (some .boolean)) := by rfl
theorem zs90 : zms 90 = some (1, 4, false, 3, [], false, none) := by rfl
theorem zs91 : zms 91 = some (7, 3, false, 3, [], false, (some .int)) := by rfl
theorem zs92 : zms 92 = some (7, 8, false, 3, [], false, (some .int)) := by rfl
theorem zs93 : zms 93 = some (7, 7, false, 3, [], false, (some .int)) := by rfl
theorem zs94 : zms 94 = some (7, 3, false, 2, [], false, (some .int)) := by rfl
theorem zs95 : zms 95 = some (7, 7, false, 3, [], false, (some .int)) := by rfl
theorem zs96 : zms 96 = some (7, 7, false, 1, [], false, (some .int)) := by rfl
theorem zs97 : zms 97 = some (7, 4, false, 2, [], false, (some .long)) := by rfl
theorem zs98 : zms 98 = some (7, 4, true, 3, [], false, (some .long)) := by rfl
theorem zs99 : zms 99 = some (7, 6, true, 2, [], false, (some .int)) := by rfl
theorem zs100 : zms 100 = some (7, 6, false, 5, [], false, (some .int)) := by rfl
theorem zs101 : zms 101 = some (7, 2, false, 2, [], false, (some .boolean)) := by rfl
theorem zs102 : zms 102 = some (3, 1, false, 1, [], false, (some .boolean)) := by rfl
theorem zs103 : zms 103 = some (7, 5, false, 4, [], false, (some .int)) := by rfl
theorem zs104 : zms 104 = some (7, 6, false, 4, [], false, (some .int)) := by rfl
theorem zs105 : zms 105 = some (7, 2, true, 2, [], false, (some .int)) := by rfl
theorem zs106 : zms 106 = some (7, 6, false, 4, [], false, (some .int)) := by rfl
theorem zs107 : zms 107 = some (7, 8, false, 5, [], false, (some .int)) := by rfl
theorem zs108 : zms 108 = some (7, 6, false, 4, [], false, (some .int)) := by rfl
theorem zs109 : zms 109 = some (7, 5, false, 3, [], false, (some .int)) := by rfl
theorem zs110 : zms 110 = some (7, 5, false, 3, [], false, (some .int)) := by rfl
theorem zs111 : zms 111 = some (7, 6, false, 4, [], false, (some .int)) := by rfl
theorem zs112 : zms 112 = some (3, 3, false, 3, [], false, none) := by rfl
theorem zs113 : zms 113 = some (13, 4, true, 2, [], false, none) := by rfl
theorem zs114 : zms 114 = some (3, 3, false, 3, [], false, (some .boolean)) := by rfl
theorem zs115 : zms 115 = some (3, 3, false, 3, [], false, (some .boolean)) := by rfl
theorem zs116 : zms 116 = some (7, 3, false, 3, [], false, (some .int)) := by rfl
theorem zs117 : zms 117 = some (7, 6, false, 3, [], false, (some .int)) := by rfl
theorem zs118 : zms 118 = some (7, 8, false, 6, [], false, (some .long)) := by rfl
theorem zs119 : zms 119 = some (7, 1, false, 1, [], false, (some .int)) := by rfl
theorem zs120 : zms 120 = some (7, 1, false, 1, [], false, (some .int)) := by rfl
theorem zs121 : zms 121 = some (7, 2, false, 2, [], false, (some .int)) := by rfl
theorem zs122 : zms 122 = some (7, 4, false, 4, [], false, (some .int)) := by rfl
theorem zs123 : zms 123 = some (7, 5, false, 4, [], false, (some .int)) := by rfl
theorem zs124 : zms 124 = some (7, 8, false, 6, [], false, (some .int)) := by rfl
theorem zs125 : zms 125 = some (7, 9, false, 5, [], false, (some .int)) := by rfl
theorem zs126 : zms 126 = some (7, 3, false, 3, [], false, (some .int)) := by rfl
theorem zs127 : zms 127 = some (7, 4, true, 2, [], false, (some .boolean)) := by rfl
theorem zs128 : zms 128 = some (8, 1, false, 1, [], true, none) := by rfl
theorem zs129 : zms 129 = some (8, 10, false, 10, [], false, none) := by rfl
theorem zs130 : zms 130 = some (8, 4, false, 4, [], false, (some .int)) := by rfl
theorem zs131 : zms 131 = some (8, 1, true, 1, [], false, (some .boolean)) := by rfl
theorem zs132 : zms 132 = some (8, 6, true, 3, [0, 2, 4], false, (some .boolean)) := by rfl
theorem zs133 : zms 133 = some (8, 2, false, 2, [], false, (some .int)) := by rfl
theorem zs134 : zms 134 = some (8, 3, true, 1, [], false, (some .int)) := by rfl
theorem zs135 : zms 135 = some (8, 5, false, 4, [], false, (some .int)) := by rfl
theorem zs136 : zms 136 = some (8, 2, false, 2, [], false, (some .boolean)) := by rfl
theorem zs137 : zms 137 = some (8, 1, true, 1, [], false, (some .int)) := by rfl
theorem zs138 : zms 138 = some (8, 3, false, 3, [], false, (some .int)) := by rfl
theorem zs139 : zms 139 = some (8, 6, false, 2, [], false, (some .int)) := by rfl
theorem zs140 : zms 140 = some (8, 7, false, 7, [], false, (some .int)) := by rfl
theorem zs141 : zms 141 = some (8, 6, false, 3, [], false, (some .int)) := by rfl
theorem zs142 : zms 142 = some (8, 3, false, 1, [], false, none) := by rfl
theorem zs143 : zms 143 = some (8, 2, false, 2, [], false, (some .int)) := by rfl
theorem zs144 : zms 144 = some (8, 9, false, 9, [], false, (some .boolean)) := by rfl
theorem zs145 : zms 145 = some (8, 3, false, 3, [], false, (some .boolean)) := by rfl
theorem zs146 : zms 146 = some (8, 3, false, 2, [], false, (some .int)) := by rfl
theorem zs147 : zms 147 = some (8, 1, false, 1, [], false, none) := by rfl
theorem zs148 : zms 148 = some (8, 3, false, 1, [], false, (some .int)) := by rfl
theorem zs149 : zms 149 = some (8, 3, false, 1, [], false, (some .int)) := by rfl
theorem zs150 : zms 150 = some (8, 4, false, 1, [], false, (some .int)) := by rfl
theorem zs151 : zms 151 = some (8, 1, false, 1, [], false, (some .boolean)) := by rfl
theorem zs152 : zms 152 = some (8, 4, false, 1, [], false, (some .int)) := by rfl
theorem zs153 : zms 153 = some (8, 2, false, 1, [], false, (some .int)) := by rfl
theorem zs154 : zms 154 = some (8, 2, false, 1, [], false, (some .int)) := by rfl
theorem zs155 : zms 155 = some (8, 2, false, 2, [], false, (some .boolean)) := by rfl
theorem zs156 : zms 156 = some (8, 1, false, 1, [], false, (some .int)) := by rfl
theorem zs157 : zms 157 = some (8, 3, true, 3, [], false, (some .int)) := by rfl
theorem zs158 : zms 158 = some (8, 4, false, 2, [], false, (some .int)) := by rfl
theorem zs159 : zms 159 = some (8, 3, false, 3, [], false, (some .boolean)) := by rfl
theorem zs160 : zms 160 = some (8, 5, false, 2, [], false, (some .int)) := by rfl
theorem zs161 : zms 161 = some (8, 2, false, 2, [], false, (some .int)) := by rfl
theorem zs162 : zms 162 = some (8, 4, false, 4, [], false, none) := by rfl
theorem zs163 : zms 163 = some (8, 3, false, 3, [], false, (some .int)) := by rfl
theorem zs164 : zms 164 = some (8, 2, false, 2, [], false, (some .int)) := by rfl
theorem zs165 : zms 165 = some (8, 2, false, 1, [], false, (some .int)) := by rfl
theorem zs166 : zms 166 = some (8, 3, false, 2, [], false, (some .int)) := by rfl
theorem zs167 : zms 167 = some (8, 3, false, 3, [], false, (some .int)) := by rfl
theorem zs168 : zms 168 = some (8, 3, false, 3, [], false, (some .int)) := by rfl
theorem zs169 : zms 169 = some (8, 9, false, 5, [], false, (some .int)) := by rfl
theorem zs170 : zms 170 = some (8, 3, false, 3, [], false, (some .int)) := by rfl
theorem zs171 : zms 171 = some (8, 8, false, 3, [], false, (some .int)) := by rfl
theorem zs172 : zms 172 = some (8, 5, false, 4, [], false, none) := by rfl
theorem zs173 : zms 173 = some (8, 4, false, 3, [], false, (some .int)) := by rfl
theorem zs174 : zms 174 = some (8, 5, false, 2, [], false, (some .boolean)) := by rfl
theorem zs175 : zms 175 = some (8, 1, false, 1, [], false, (some .int)) := by rfl
theorem zs176 : zms 176 = some (8, 2, false, 1, [], false, none) := by rfl
theorem zs177 : zms 177 = some (8, 1, false, 1, [], false, (some .int)) := by rfl
theorem zs178 : zms 178 = some (8, 4, false, 4, [], false, (some .int)) := by rfl
theorem zs179 : zms 179 = some (8, 6, false, 4, [], false, (some .int)) := by rfl
theorem zs180 : zms 180 = some (8, 2, false, 1, [], false, none) := by rfl
theorem zs181 : zms 181 = some (8, 2, false, 1, [], false, none) := by rfl
theorem zs182 : zms 182 = some (8, 6, false, 5, [], false, (some .int)) := by rfl
theorem zs183 : zms 183 = some (8, 5, false, 3, [], false, none) := by rfl
theorem zs184 : zms 184 = some (8, 4, false, 4, [], false, (some .int)) := by rfl
theorem zs185 : zms 185 = some (8, 11, false, 6, [], false, none) := by rfl
theorem zs186 : zms 186 = some (8, 3, false, 3, [], false, (some .int)) := by rfl
theorem zs187 : zms 187 = some (8, 3, false, 2, [], false, (some .int)) := by rfl
theorem zs188 : zms 188 = some (8, 7, false, 3, [], false, (some .int)) := by rfl
theorem zs189 : zms 189 = some (8, 7, false, 3, [], false, (some .int)) := by rfl
theorem zs190 : zms 190 = some (8, 6, false, 1, [], false, (some .int)) := by rfl
theorem zs191 : zms 191 = some (8, 3, false, 2, [], false, (some .long)) := by rfl
theorem zs192 : zms 192 = some (8, 11, true, 3, [0, 2, 5, 7, 9], false, (some .long)) := by rfl
theorem zs193 : zms 193 = some (8, 12, false, 5, [], false, (some .int)) := by rfl
theorem zs194 : zms 194 = some (8, 1, true, 1, [], false, (some .boolean)) := by rfl
theorem zs195 : zms 195 = some (8, 5, false, 4, [], false, (some .int)) := by rfl
theorem zs196 : zms 196 = some (8, 5, false, 3, [], false, (some .int)) := by rfl
theorem zs197 : zms 197 = some (8, 5, false, 3, [], false, (some .int)) := by rfl
theorem zs198 : zms 198 = some (8, 6, false, 4, [], false, (some .int)) := by rfl
theorem zs199 : zms 199 = some (8, 5, false, 4, [], false, (some .int)) := by rfl
theorem zs200 : zms 200 = some (8, 3, false, 3, [], false, (some .int)) := by rfl
theorem zs201 : zms 201 = some (8, 5, false, 3, [], false, (some .int)) := by rfl
theorem zs202 : zms 202 = some (8, 9, false, 6, [6], false, (some .long)) := by rfl
theorem zs203 : zms 203 = some (8, 2, false, 1, [], false, (some .int)) := by rfl
theorem zs204 : zms 204 = some (8, 2, false, 1, [], false, (some .int)) := by rfl
theorem zs205 : zms 205 = some (8, 2, false, 2, [], false, (some .int)) := by rfl
theorem zs206 : zms 206 = some (8, 4, false, 4, [], false, (some .int)) := by rfl
theorem zs207 : zms 207 = some (8, 9, false, 6, [], false, (some .int)) := by rfl
theorem zs208 : zms 208 = some (8, 8, false, 5, [], false, (some .int)) := by rfl
theorem zs209 : zms 209 = some (8, 4, false, 3, [], false, (some .int)) := by rfl
theorem zs210 : zms 210 = some (8, 1, true, 1, [], false, (some .int)) := by rfl
theorem zs211 : zms 211 = some (15, 4, true, 1, [], false, (some .boolean)) := by rfl
theorem zTxt_at {F : zF} (hF : zSh F) {i : Nat} (h : i < 6) : zrf F 21 i = some (24 + 3 * i) ∧ zTx (24 + 3 * i) := by
  rcases (show i = 0 ∨ i = 1 ∨ i = 2 ∨ i = 3 ∨ i = 4 ∨ i = 5 by omega) with rfl | rfl | rfl | rfl | rfl | rfl
  · exact ⟨zrf_at hF (i := 28) rfl, by simp [zTx]⟩
  · exact ⟨zrf_at hF (i := 29) rfl, by simp [zTx]⟩
  · exact ⟨zrf_at hF (i := 30) rfl, by simp [zTx]⟩
  · exact ⟨zrf_at hF (i := 31) rfl, by simp [zTx]⟩
  · exact ⟨zrf_at hF (i := 32) rfl, by simp [zTx]⟩
  · exact ⟨zrf_at hF (i := 33) rfl, by simp [zTx]⟩
theorem zTxt_in {i : Nat} (h : i < 6) : zTx (24 + 3 * i) := by
  unfold zTx
  omega
theorem zSht_at {F : zF} (hF : zSh F) {i : Nat} (h : i < 4) : zrf F 50 i = some (51 + 2 * i) ∧ zSt4 (51 + 2 * i) := by
  rcases (show i = 0 ∨ i = 1 ∨ i = 2 ∨ i = 3 by omega) with rfl | rfl | rfl | rfl
  · exact ⟨zrf_at hF (i := 51) rfl, by simp [zSt4]⟩
  · exact ⟨zrf_at hF (i := 52) rfl, by simp [zSt4]⟩
  · exact ⟨zrf_at hF (i := 53) rfl, by simp [zSt4]⟩
  · exact ⟨zrf_at hF (i := 54) rfl, by simp [zSt4]⟩
theorem zSht_in {i : Nat} (h : i < 4) : zSt4 (51 + 2 * i) := by
  unfold zSt4
  omega
theorem zsw_out {a : Int32} {lo hi : Int} (h1 : -1000000 ≤ lo) (h2 : hi ≤ 1000000) (h : ∀ v : Int, lo ≤ v → v ≤ hi → a = Int32.ofInt v → False) : a.toInt < lo ∨ hi < a.toInt := by
  by_cases hh : a.toInt < lo ∨ hi < a.toInt
  · exact hh
  · exfalso
    refine h a.toInt (by omega) (by omega) ?_
    exact (Int32.ofInt_toInt a).symm
theorem zd5_0 : zop 5 0 = some (.aload_n 0, 1) := by decide +kernel
theorem zd5_1 : zop 5 1 = some (.getfield 18, 3) := by decide +kernel
theorem zd5_4 : zop 5 4 = some (.sipush 160, 3) := by decide +kernel
theorem zd5_7 : zop 5 7 = some (.if_icmp .ge 23, 3) := by decide +kernel
theorem zd5_10 : zop 5 10 = some (.aload_n 0, 1) := by decide +kernel
theorem zd5_11 : zop 5 11 = some (.getfield 9, 3) := by decide +kernel
theorem zd5_14 : zop 5 14 = some (.aload_n 0, 1) := by decide +kernel
theorem zd5_15 : zop 5 15 = some (.getfield 18, 3) := by decide +kernel
theorem zd5_18 : zop 5 18 = some (.iload_n 1, 1) := by decide +kernel
theorem zd5_19 : zop 5 19 = some (.iastore, 1) := by decide +kernel
theorem zd5_20 : zop 5 20 = some (.aload_n 0, 1) := by decide +kernel
theorem zd5_21 : zop 5 21 = some (.dup, 1) := by decide +kernel
theorem zd5_22 : zop 5 22 = some (.getfield 18, 3) := by decide +kernel
theorem zd5_25 : zop 5 25 = some (.iconst 1, 1) := by decide +kernel
theorem zd5_26 : zop 5 26 = some (.iadd, 1) := by decide +kernel
theorem zd5_27 : zop 5 27 = some (.putfield 18, 3) := by decide +kernel
theorem zd5_30 : zop 5 30 = some (.return_, 1) := by decide +kernel
theorem b5_0 {x : zXs} {F : zF} (hF : zSh F) {d : Nat} {V : Nat → Nat → Int32} {T : Nat → Nat → Int64} {Q : Option Value → zG → Prop} {l0 : Nat} {o1 : Option Value} (hl0 : zTx l0)  (kt : (Int32.ofInt 160) ≤ (V l0 2) → E x F d 5 30 [some (.ref l0), o1] [] (V, T) Q) (kf : ¬ ((Int32.ofInt 160) ≤ (V l0 2)) → E x F d 5 10 [some (.ref l0), o1] [] (V, T) Q) : E x F d 5 0 [some (.ref l0), o1] [] (V, T) Q := by
  refine e_aload_n zd5_0 rfl rfl ?_
  refine e_getI zd5_1 (own := 6) (ci := 6) (kf := 2) (w := 178) (by decide +kernel) (by decide +kernel) (zTx_s hF hl0).1 (by decide +kernel) rfl ?_
  refine e_sipush zd5_4 (v := Int32.ofInt 160) (by decide +kernel) ?_
  exact e_icmp_ge zd5_7 (tg := 30) rfl kt kf
theorem b5_10 {x : zXs} {F : zF} (hF : zSh F) {d : Nat} {V : Nat → Nat → Int32} {T : Nat → Nat → Int64} {Q : Option Value → zG → Prop} {l0 : Nat} {l1 : Int32} (hl0 : zTx l0) {i1 : Nat} (e1 : V l0 2 = nI i1) (h1 : i1 < 160) (k : E x F d 5 30 [some (.ref l0), some (.int l1)] [] (zu (zu V (l0 + 1) i1 l1) l0 2 (((zu V (l0 + 1) i1 l1) l0 2) + (Int32.ofInt 1)), T) Q) : E x F d 5 10 [some (.ref l0), some (.int l1)] [] (V, T) Q := by
  refine e_aload_n zd5_10 rfl rfl ?_
  refine e_getA zd5_11 (own := 6) (ci := 6) (kf := 0) (w := 174) (by decide +kernel) (by decide +kernel) (zTx_s hF hl0).1 (by decide +kernel) rfl (zTx_f0 hF hl0) ?_
  refine e_aload_n zd5_14 rfl rfl ?_
  refine e_getI zd5_15 (own := 6) (ci := 6) (kf := 2) (w := 178) (by decide +kernel) (by decide +kernel) (zTx_s hF hl0).1 (by decide +kernel) rfl ?_
  refine e_iload_n zd5_18 rfl ?_
  refine e_iast zd5_19 (i := i1) (zTx_a0 hF hl0) e1 h1 (by omega) ?_
  refine e_aload_n zd5_20 rfl rfl ?_
  refine e_dup zd5_21 rfl ?_
  refine e_getI zd5_22 (own := 6) (ci := 6) (kf := 2) (w := 178) (by decide +kernel) (by decide +kernel) (zTx_s hF hl0).1 (by decide +kernel) rfl ?_
  refine e_iconst zd5_25 ?_
  refine e_iadd zd5_26 ?_
  refine e_putI zd5_27 (own := 6) (ci := 6) (kf := 2) (w := 178) (by decide +kernel) (by decide +kernel) (zTx_s hF hl0).1 (by decide +kernel) rfl ?_
  exact k
theorem b5_30 {x : zXs} {F : zF} (hF : zSh F) {d : Nat} {V : Nat → Nat → Int32} {T : Nat → Nat → Int64} {Q : Option Value → zG → Prop} {o0 : Option Value} {o1 : Option Value}   (k : Q none (V, T)) : E x F d 5 30 [o0, o1] [] (V, T) Q := by
  exact e_vret zd5_30 zs5 k
theorem zd6_0 : zop 6 0 = some (.iload_n 1, 1) := by decide +kernel
theorem zd6_1 : zop 6 1 = some (.iconst 0, 1) := by decide +kernel
theorem zd6_2 : zop 6 2 = some (.iconst 2, 1) := by decide +kernel
theorem zd6_3 : zop 6 3 = some (.invokestatic 22, 3) := by decide +kernel
theorem zd6_6 : zop 6 6 = some (.ifCond .eq 13, 3) := by decide +kernel
theorem zd6_9 : zop 6 9 = some (.aload_n 0, 1) := by decide +kernel
theorem zd6_10 : zop 6 10 = some (.getfield 15, 3) := by decide +kernel
theorem zd6_13 : zop 6 13 = some (.iload_n 1, 1) := by decide +kernel
theorem zd6_14 : zop 6 14 = some (.aload_n 0, 1) := by decide +kernel
theorem zd6_15 : zop 6 15 = some (.getfield 18, 3) := by decide +kernel
theorem zd6_18 : zop 6 18 = some (.iastore, 1) := by decide +kernel
theorem zd6_19 : zop 6 19 = some (.return_, 1) := by decide +kernel
theorem b6_0 {x : zXs} {F : zF} (hF : zSh F) {d : Nat} {V : Nat → Nat → Int32} {T : Nat → Nat → Int64} {Q : Option Value → zG → Prop} {o0 : Option Value} {l1 : Int32}   (k : E x F d 7 0 [some (.int l1), some (.int (Int32.ofInt 0)), some (.int (Int32.ofInt 2))] [] (V, T) (fun r G' => E x F (d + 1) 6 6 [o0, some (.int l1)] (r.toList ++ []) G' Q)) : E x F (d + 1) 6 0 [o0, some (.int l1)] [] (V, T) Q := by
  refine e_iload_n zd6_0 rfl ?_
  refine e_iconst zd6_1 ?_
  refine e_iconst zd6_2 ?_
  exact e_callS zd6_3 (own := 6) (nest := true) (w := 194) (by decide +kernel) (by decide +kernel) zs7 (as := [.int l1, .int (Int32.ofInt 0), .int (Int32.ofInt 2)]) (rest := []) rfl rfl (Nat.le_of_ble_eq_true rfl) rfl rfl rfl (by omega) k
theorem b6_6 {x : zXs} {F : zF} (hF : zSh F) {d : Nat} {V : Nat → Nat → Int32} {T : Nat → Nat → Int64} {Q : Option Value → zG → Prop} {o0 : Option Value} {o1 : Option Value} {s0 : Int32}   (kt : s0 = 0 → E x F d 6 19 [o0, o1] [] (V, T) Q) (kf : ¬ (s0 = 0) → E x F d 6 9 [o0, o1] [] (V, T) Q) : E x F d 6 6 [o0, o1] [.int s0] (V, T) Q := by
  exact e_if_eq zd6_6 (tg := 19) rfl kt kf
theorem b6_9 {x : zXs} {F : zF} (hF : zSh F) {d : Nat} {V : Nat → Nat → Int32} {T : Nat → Nat → Int64} {Q : Option Value → zG → Prop} {l0 : Nat} {l1 : Int32} (hl0 : zTx l0) {i1 : Nat} (e1 : l1 = nI i1) (h1 : i1 < 3) (k : E x F d 6 19 [some (.ref l0), some (.int l1)] [] (zu V (l0 + 2) i1 (V l0 2), T) Q) : E x F d 6 9 [some (.ref l0), some (.int l1)] [] (V, T) Q := by
  refine e_aload_n zd6_9 rfl rfl ?_
  refine e_getA zd6_10 (own := 6) (ci := 6) (kf := 1) (w := 176) (by decide +kernel) (by decide +kernel) (zTx_s hF hl0).1 (by decide +kernel) rfl (zTx_f1 hF hl0) ?_
  refine e_iload_n zd6_13 rfl ?_
  refine e_aload_n zd6_14 rfl rfl ?_
  refine e_getI zd6_15 (own := 6) (ci := 6) (kf := 2) (w := 178) (by decide +kernel) (by decide +kernel) (zTx_s hF hl0).1 (by decide +kernel) rfl ?_
  refine e_iast zd6_18 (i := i1) (zTx_a1 hF hl0) e1 h1 (by omega) ?_
  exact k
theorem b6_19 {x : zXs} {F : zF} (hF : zSh F) {d : Nat} {V : Nat → Nat → Int32} {T : Nat → Nat → Int64} {Q : Option Value → zG → Prop} {o0 : Option Value} {o1 : Option Value}   (k : Q none (V, T)) : E x F d 6 19 [o0, o1] [] (V, T) Q := by
  exact e_vret zd6_19 zs6 k
theorem zd7_0 : zop 7 0 = some (.iload_n 0, 1) := by decide +kernel
theorem zd7_1 : zop 7 1 = some (.iload_n 1, 1) := by decide +kernel
theorem zd7_2 : zop 7 2 = some (.if_icmp .lt 12, 3) := by decide +kernel
theorem zd7_5 : zop 7 5 = some (.iload_n 0, 1) := by decide +kernel
theorem zd7_6 : zop 7 6 = some (.iload_n 2, 1) := by decide +kernel
theorem zd7_7 : zop 7 7 = some (.if_icmp .gt 7, 3) := by decide +kernel
theorem zd7_10 : zop 7 10 = some (.iconst 1, 1) := by decide +kernel
theorem zd7_11 : zop 7 11 = some (.goto 4, 3) := by decide +kernel
theorem zd7_14 : zop 7 14 = some (.iconst 0, 1) := by decide +kernel
theorem zd7_15 : zop 7 15 = some (.ireturn, 1) := by decide +kernel
theorem b7_0 {x : zXs} {F : zF} (hF : zSh F) {d : Nat} {V : Nat → Nat → Int32} {T : Nat → Nat → Int64} {Q : Option Value → zG → Prop} {l0 : Int32} {l1 : Int32} {o2 : Option Value}   (kt : l0 < l1 → E x F d 7 14 [some (.int l0), some (.int l1), o2] [] (V, T) Q) (kf : ¬ (l0 < l1) → E x F d 7 5 [some (.int l0), some (.int l1), o2] [] (V, T) Q) : E x F d 7 0 [some (.int l0), some (.int l1), o2] [] (V, T) Q := by
  refine e_iload_n zd7_0 rfl ?_
  refine e_iload_n zd7_1 rfl ?_
  exact e_icmp_lt zd7_2 (tg := 14) rfl kt kf
theorem b7_5 {x : zXs} {F : zF} (hF : zSh F) {d : Nat} {V : Nat → Nat → Int32} {T : Nat → Nat → Int64} {Q : Option Value → zG → Prop} {l0 : Int32} {o1 : Option Value} {l2 : Int32}   (kt : l2 < l0 → E x F d 7 14 [some (.int l0), o1, some (.int l2)] [] (V, T) Q) (kf : ¬ (l2 < l0) → E x F d 7 10 [some (.int l0), o1, some (.int l2)] [] (V, T) Q) : E x F d 7 5 [some (.int l0), o1, some (.int l2)] [] (V, T) Q := by
  refine e_iload_n zd7_5 rfl ?_
  refine e_iload_n zd7_6 rfl ?_
  exact e_icmp_gt zd7_7 (tg := 14) rfl kt kf
theorem b7_10 {x : zXs} {F : zF} (hF : zSh F) {d : Nat} {V : Nat → Nat → Int32} {T : Nat → Nat → Int64} {Q : Option Value → zG → Prop} {o0 : Option Value} {o1 : Option Value} {o2 : Option Value}   (k : E x F d 7 15 [o0, o1, o2] [.int (Int32.ofInt 1)] (V, T) Q) : E x F d 7 10 [o0, o1, o2] [] (V, T) Q := by
  refine e_iconst zd7_10 ?_
  exact e_goto zd7_11 (tg := 15) rfl k
theorem b7_14 {x : zXs} {F : zF} (hF : zSh F) {d : Nat} {V : Nat → Nat → Int32} {T : Nat → Nat → Int64} {Q : Option Value → zG → Prop} {o0 : Option Value} {o1 : Option Value} {o2 : Option Value}   (k : E x F d 7 15 [o0, o1, o2] [.int (Int32.ofInt 0)] (V, T) Q) : E x F d 7 14 [o0, o1, o2] [] (V, T) Q := by
  refine e_iconst zd7_14 ?_
  exact k
theorem b7_15 {x : zXs} {F : zF} (hF : zSh F) {d : Nat} {V : Nat → Nat → Int32} {T : Nat → Nat → Int64} {Q : Option Value → zG → Prop} {o0 : Option Value} {o1 : Option Value} {o2 : Option Value} {s0 : Int32}  (b1 : narrow .boolean (.int s0) = .int s0) (k : Q (some (.int s0)) (V, T)) : E x F d 7 15 [o0, o1, o2] [.int s0] (V, T) Q := by
  exact e_iretz zd7_15 zs7 b1 k
theorem zd11_0 : zop 11 0 = some (.aload_n 0, 1) := by decide +kernel
theorem zd11_1 : zop 11 1 = some (.getfield 10, 3) := by decide +kernel
theorem zd11_4 : zop 11 4 = some (.iload_n 1, 1) := by decide +kernel
theorem zd11_5 : zop 11 5 = some (.invokevirtual 55, 3) := by decide +kernel
theorem zd11_8 : zop 11 8 = some (.ifCond .eq 26, 3) := by decide +kernel
theorem zd11_11 : zop 11 11 = some (.iload_n 2, 1) := by decide +kernel
theorem zd11_12 : zop 11 12 = some (.iconst 0, 1) := by decide +kernel
theorem zd11_13 : zop 11 13 = some (.bipush 24, 2) := by decide +kernel
theorem zd11_15 : zop 11 15 = some (.invokestatic 59, 3) := by decide +kernel
theorem zd11_18 : zop 11 18 = some (.ifCond .eq 16, 3) := by decide +kernel
theorem zd11_21 : zop 11 21 = some (.iload_n 3, 1) := by decide +kernel
theorem zd11_22 : zop 11 22 = some (.iconst 0, 1) := by decide +kernel
theorem zd11_23 : zop 11 23 = some (.iconst 1, 1) := by decide +kernel
theorem zd11_24 : zop 11 24 = some (.iload_n 2, 1) := by decide +kernel
theorem zd11_25 : zop 11 25 = some (.ishl, 1) := by decide +kernel
theorem zd11_26 : zop 11 26 = some (.iconst 1, 1) := by decide +kernel
theorem zd11_27 : zop 11 27 = some (.isub, 1) := by decide +kernel
theorem zd11_28 : zop 11 28 = some (.invokestatic 59, 3) := by decide +kernel
theorem zd11_31 : zop 11 31 = some (.ifCond .ne 6, 3) := by decide +kernel
theorem zd11_34 : zop 11 34 = some (.bipush (-2), 2) := by decide +kernel
theorem zd11_36 : zop 11 36 = some (.ireturn, 1) := by decide +kernel
theorem zd11_37 : zop 11 37 = some (.aload_n 0, 1) := by decide +kernel
theorem zd11_38 : zop 11 38 = some (.getfield 10, 3) := by decide +kernel
theorem zd11_41 : zop 11 41 = some (.getfield 63, 3) := by decide +kernel
theorem zd11_44 : zop 11 44 = some (.iload_n 1, 1) := by decide +kernel
theorem zd11_45 : zop 11 45 = some (.iload_n 2, 1) := by decide +kernel
theorem zd11_46 : zop 11 46 = some (.iastore, 1) := by decide +kernel
theorem zd11_47 : zop 11 47 = some (.aload_n 0, 1) := by decide +kernel
theorem zd11_48 : zop 11 48 = some (.getfield 10, 3) := by decide +kernel
theorem zd11_51 : zop 11 51 = some (.getfield 67, 3) := by decide +kernel
theorem zd11_54 : zop 11 54 = some (.iload_n 1, 1) := by decide +kernel
theorem zd11_55 : zop 11 55 = some (.iload_n 3, 1) := by decide +kernel
theorem zd11_56 : zop 11 56 = some (.iastore, 1) := by decide +kernel
theorem zd11_57 : zop 11 57 = some (.aload_n 0, 1) := by decide +kernel
theorem zd11_58 : zop 11 58 = some (.getfield 10, 3) := by decide +kernel
theorem zd11_61 : zop 11 61 = some (.iload_n 1, 1) := by decide +kernel
theorem zd11_62 : zop 11 62 = some (.invokevirtual 70, 3) := by decide +kernel
theorem zd11_65 : zop 11 65 = some (.ireturn, 1) := by decide +kernel
theorem b11_0 {x : zXs} {F : zF} (hF : zSh F) {d : Nat} {V : Nat → Nat → Int32} {T : Nat → Nat → Int64} {Q : Option Value → zG → Prop} {l1 : Int32} {o2 : Option Value} {o3 : Option Value}   (k : E x F d 12 0 [some (.ref 1), some (.int l1)] [] (V, T) (fun r G' => E x F (d + 1) 11 8 [some (.ref 0), some (.int l1), o2, o3] (r.toList ++ []) G' Q)) : E x F (d + 1) 11 0 [some (.ref 0), some (.int l1), o2, o3] [] (V, T) Q := by
  refine e_aload_n zd11_0 rfl rfl ?_
  refine e_getO zd11_1 (own := 7) (ci := 7) (kf := 0) (w := 297) (by decide +kernel) (by decide +kernel) (zsh_at hF rfl).1 (by decide +kernel) rfl (zrf_at hF (i := 0) rfl) ?_
  refine e_iload_n zd11_4 rfl ?_
  exact e_callV zd11_5 (own := 7) (nest := false) (w := 329) (by decide +kernel) (by decide +kernel) zs12 (as := [.int l1]) (rest := []) rfl rfl (zsh_at hF rfl).1 (by omega) (Nat.le_of_ble_eq_true rfl) rfl rfl rfl (by omega) k
theorem b11_8 {x : zXs} {F : zF} (hF : zSh F) {d : Nat} {V : Nat → Nat → Int32} {T : Nat → Nat → Int64} {Q : Option Value → zG → Prop} {o0 : Option Value} {o1 : Option Value} {o2 : Option Value} {o3 : Option Value} {s0 : Int32}   (kt : s0 = 0 → E x F d 11 34 [o0, o1, o2, o3] [] (V, T) Q) (kf : ¬ (s0 = 0) → E x F d 11 11 [o0, o1, o2, o3] [] (V, T) Q) : E x F d 11 8 [o0, o1, o2, o3] [.int s0] (V, T) Q := by
  exact e_if_eq zd11_8 (tg := 34) rfl kt kf
theorem b11_11 {x : zXs} {F : zF} (hF : zSh F) {d : Nat} {V : Nat → Nat → Int32} {T : Nat → Nat → Int64} {Q : Option Value → zG → Prop} {o0 : Option Value} {o1 : Option Value} {l2 : Int32} {o3 : Option Value}   (k : E x F d 7 0 [some (.int l2), some (.int (Int32.ofInt 0)), some (.int (Int32.ofInt 24))] [] (V, T) (fun r G' => E x F (d + 1) 11 18 [o0, o1, some (.int l2), o3] (r.toList ++ []) G' Q)) : E x F (d + 1) 11 11 [o0, o1, some (.int l2), o3] [] (V, T) Q := by
  refine e_iload_n zd11_11 rfl ?_
  refine e_iconst zd11_12 ?_
  refine e_bipush zd11_13 (v := Int32.ofInt 24) (by decide +kernel) ?_
  exact e_callS zd11_15 (own := 7) (nest := false) (w := 334) (by decide +kernel) (by decide +kernel) zs7 (as := [.int l2, .int (Int32.ofInt 0), .int (Int32.ofInt 24)]) (rest := []) rfl rfl (Nat.le_of_ble_eq_true rfl) rfl rfl rfl (by omega) k
theorem b11_18 {x : zXs} {F : zF} (hF : zSh F) {d : Nat} {V : Nat → Nat → Int32} {T : Nat → Nat → Int64} {Q : Option Value → zG → Prop} {o0 : Option Value} {o1 : Option Value} {o2 : Option Value} {o3 : Option Value} {s0 : Int32}   (kt : s0 = 0 → E x F d 11 34 [o0, o1, o2, o3] [] (V, T) Q) (kf : ¬ (s0 = 0) → E x F d 11 21 [o0, o1, o2, o3] [] (V, T) Q) : E x F d 11 18 [o0, o1, o2, o3] [.int s0] (V, T) Q := by
  exact e_if_eq zd11_18 (tg := 34) rfl kt kf
theorem b11_21 {x : zXs} {F : zF} (hF : zSh F) {d : Nat} {V : Nat → Nat → Int32} {T : Nat → Nat → Int64} {Q : Option Value → zG → Prop} {o0 : Option Value} {o1 : Option Value} {l2 : Int32} {l3 : Int32}   (k : E x F d 7 0 [some (.int l3), some (.int (Int32.ofInt 0)), some (.int (((Int32.ofInt 1) <<< (l2 &&& 31)) - (Int32.ofInt 1)))] [] (V, T) (fun r G' => E x F (d + 1) 11 31 [o0, o1, some (.int l2), some (.int l3)] (r.toList ++ []) G' Q)) : E x F (d + 1) 11 21 [o0, o1, some (.int l2), some (.int l3)] [] (V, T) Q := by
  refine e_iload_n zd11_21 rfl ?_
  refine e_iconst zd11_22 ?_
  refine e_iconst zd11_23 ?_
  refine e_iload_n zd11_24 rfl ?_
  refine e_ishl zd11_25 ?_
  refine e_iconst zd11_26 ?_
  refine e_isub zd11_27 ?_
  exact e_callS zd11_28 (own := 7) (nest := false) (w := 334) (by decide +kernel) (by decide +kernel) zs7 (as := [.int l3, .int (Int32.ofInt 0), .int (((Int32.ofInt 1) <<< (l2 &&& 31)) - (Int32.ofInt 1))]) (rest := []) rfl rfl (Nat.le_of_ble_eq_true rfl) rfl rfl rfl (by omega) k
theorem b11_31 {x : zXs} {F : zF} (hF : zSh F) {d : Nat} {V : Nat → Nat → Int32} {T : Nat → Nat → Int64} {Q : Option Value → zG → Prop} {o0 : Option Value} {o1 : Option Value} {o2 : Option Value} {o3 : Option Value} {s0 : Int32}   (kt : ¬ s0 = 0 → E x F d 11 37 [o0, o1, o2, o3] [] (V, T) Q) (kf : ¬ (¬ s0 = 0) → E x F d 11 34 [o0, o1, o2, o3] [] (V, T) Q) : E x F d 11 31 [o0, o1, o2, o3] [.int s0] (V, T) Q := by
  exact e_if_ne zd11_31 (tg := 37) rfl kt kf
theorem b11_34 {x : zXs} {F : zF} (hF : zSh F) {d : Nat} {V : Nat → Nat → Int32} {T : Nat → Nat → Int64} {Q : Option Value → zG → Prop} {o0 : Option Value} {o1 : Option Value} {o2 : Option Value} {o3 : Option Value}   (k : Q (some (.int (Int32.ofInt (-2)))) (V, T)) : E x F d 11 34 [o0, o1, o2, o3] [] (V, T) Q := by
  refine e_bipush zd11_34 (v := Int32.ofInt (-2)) (by decide +kernel) ?_
  exact e_ireti zd11_36 zs11 k
theorem b11_37 {x : zXs} {F : zF} (hF : zSh F) {d : Nat} {V : Nat → Nat → Int32} {T : Nat → Nat → Int64} {Q : Option Value → zG → Prop} {l1 : Int32} {l2 : Int32} {l3 : Int32}  {i1 : Nat} (e1 : l1 = nI i1) (h1 : i1 < 4) {i2 : Nat} (e2 : l1 = nI i2) (h2 : i2 < 4) (k : E x F d 13 0 [some (.ref 1), some (.int l1)] [] (zu (zu V 2 i1 l2) 3 i2 l3, T) (fun r G' => E x F (d + 1) 11 65 [some (.ref 0), some (.int l1), some (.int l2), some (.int l3)] (r.toList ++ []) G' Q)) : E x F (d + 1) 11 37 [some (.ref 0), some (.int l1), some (.int l2), some (.int l3)] [] (V, T) Q := by
  refine e_aload_n zd11_37 rfl rfl ?_
  refine e_getO zd11_38 (own := 7) (ci := 7) (kf := 0) (w := 297) (by decide +kernel) (by decide +kernel) (zsh_at hF rfl).1 (by decide +kernel) rfl (zrf_at hF (i := 0) rfl) ?_
  refine e_getA zd11_41 (own := 7) (ci := 4) (kf := 0) (w := 111) (by decide +kernel) (by decide +kernel) (zsh_at hF rfl).1 (by decide +kernel) rfl (zrf_at hF (i := 8) rfl) ?_
  refine e_iload_n zd11_44 rfl ?_
  refine e_iload_n zd11_45 rfl ?_
  refine e_iast zd11_46 (i := i1) (zsh_at hF rfl) e1 h1 (by omega) ?_
  refine e_aload_n zd11_47 rfl rfl ?_
  refine e_getO zd11_48 (own := 7) (ci := 7) (kf := 0) (w := 297) (by decide +kernel) (by decide +kernel) (zsh_at hF rfl).1 (by decide +kernel) rfl (zrf_at hF (i := 0) rfl) ?_
  refine e_getA zd11_51 (own := 7) (ci := 4) (kf := 1) (w := 114) (by decide +kernel) (by decide +kernel) (zsh_at hF rfl).1 (by decide +kernel) rfl (zrf_at hF (i := 9) rfl) ?_
  refine e_iload_n zd11_54 rfl ?_
  refine e_iload_n zd11_55 rfl ?_
  refine e_iast zd11_56 (i := i2) (zsh_at hF rfl) e2 h2 (by omega) ?_
  refine e_aload_n zd11_57 rfl rfl ?_
  refine e_getO zd11_58 (own := 7) (ci := 7) (kf := 0) (w := 297) (by decide +kernel) (by decide +kernel) (zsh_at hF rfl).1 (by decide +kernel) rfl (zrf_at hF (i := 0) rfl) ?_
  refine e_iload_n zd11_61 rfl ?_
  exact e_callV zd11_62 (own := 7) (nest := false) (w := 335) (by decide +kernel) (by decide +kernel) zs13 (as := [.int l1]) (rest := []) rfl rfl (zsh_at hF rfl).1 (by omega) (Nat.le_of_ble_eq_true rfl) rfl rfl rfl (by omega) k
theorem b11_65 {x : zXs} {F : zF} (hF : zSh F) {d : Nat} {V : Nat → Nat → Int32} {T : Nat → Nat → Int64} {Q : Option Value → zG → Prop} {o0 : Option Value} {o1 : Option Value} {o2 : Option Value} {o3 : Option Value} {s0 : Int32}   (k : Q (some (.int s0)) (V, T)) : E x F d 11 65 [o0, o1, o2, o3] [.int s0] (V, T) Q := by
  exact e_ireti zd11_65 zs11 k
theorem zd12_0 : zop 12 0 = some (.iload_n 1, 1) := by decide +kernel
theorem zd12_1 : zop 12 1 = some (.iconst 0, 1) := by decide +kernel
theorem zd12_2 : zop 12 2 = some (.iconst 3, 1) := by decide +kernel
theorem zd12_3 : zop 12 3 = some (.invokestatic 43, 3) := by decide +kernel
theorem zd12_6 : zop 12 6 = some (.ireturn, 1) := by decide +kernel
theorem b12_0 {x : zXs} {F : zF} (hF : zSh F) {d : Nat} {V : Nat → Nat → Int32} {T : Nat → Nat → Int64} {Q : Option Value → zG → Prop} {o0 : Option Value} {l1 : Int32}   (k : E x F d 7 0 [some (.int l1), some (.int (Int32.ofInt 0)), some (.int (Int32.ofInt 3))] [] (V, T) (fun r G' => E x F (d + 1) 12 6 [o0, some (.int l1)] (r.toList ++ []) G' Q)) : E x F (d + 1) 12 0 [o0, some (.int l1)] [] (V, T) Q := by
  refine e_iload_n zd12_0 rfl ?_
  refine e_iconst zd12_1 ?_
  refine e_iconst zd12_2 ?_
  exact e_callS zd12_3 (own := 4) (nest := true) (w := 333) (by decide +kernel) (by decide +kernel) zs7 (as := [.int l1, .int (Int32.ofInt 0), .int (Int32.ofInt 3)]) (rest := []) rfl rfl (Nat.le_of_ble_eq_true rfl) rfl rfl rfl (by omega) k
theorem b12_6 {x : zXs} {F : zF} (hF : zSh F) {d : Nat} {V : Nat → Nat → Int32} {T : Nat → Nat → Int64} {Q : Option Value → zG → Prop} {o0 : Option Value} {o1 : Option Value} {s0 : Int32}  (b1 : narrow .boolean (.int s0) = .int s0) (k : Q (some (.int s0)) (V, T)) : E x F d 12 6 [o0, o1] [.int s0] (V, T) Q := by
  exact e_iretz zd12_6 zs12 b1 k
theorem zd13_0 : zop 13 0 = some (.aload_n 0, 1) := by decide +kernel
theorem zd13_1 : zop 13 1 = some (.iload_n 1, 1) := by decide +kernel
theorem zd13_2 : zop 13 2 = some (.invokevirtual 47, 3) := by decide +kernel
theorem zd13_5 : zop 13 5 = some (.invokestatic 51, 3) := by decide +kernel
theorem zd13_8 : zop 13 8 = some (.ireturn, 1) := by decide +kernel
theorem b13_0 {x : zXs} {F : zF} (hF : zSh F) {d : Nat} {V : Nat → Nat → Int32} {T : Nat → Nat → Int64} {Q : Option Value → zG → Prop} {l0 : Nat} {l1 : Int32} (hl0 : zSt l0)  (k : E x F d 14 0 [some (.ref l0), some (.int l1)] [] (V, T) (fun r G' => E x F (d + 1) 13 5 [some (.ref l0), some (.int l1)] (r.toList ++ []) G' Q)) : E x F (d + 1) 13 0 [some (.ref l0), some (.int l1)] [] (V, T) Q := by
  refine e_aload_n zd13_0 rfl rfl ?_
  refine e_iload_n zd13_1 rfl ?_
  exact e_callV zd13_2 (own := 4) (nest := false) (w := 339) (by decide +kernel) (by decide +kernel) zs14 (as := [.int l1]) (rest := []) rfl rfl (zSt_s hF hl0).1 (by omega) (Nat.le_of_ble_eq_true rfl) rfl rfl rfl (by omega) k
theorem b13_5 {x : zXs} {F : zF} (hF : zSh F) {d : Nat} {V : Nat → Nat → Int32} {T : Nat → Nat → Int64} {Q : Option Value → zG → Prop} {o0 : Option Value} {o1 : Option Value} {s0 : Int32}   (k : E x F d 15 0 [some (.int s0)] [] (V, T) (fun r G' => E x F (d + 1) 13 8 [o0, o1] (r.toList ++ []) G' Q)) : E x F (d + 1) 13 5 [o0, o1] [.int s0] (V, T) Q := by
  exact e_callS zd13_5 (own := 4) (nest := false) (w := 343) (by decide +kernel) (by decide +kernel) zs15 (as := [.int s0]) (rest := []) rfl rfl (Nat.le_of_ble_eq_true rfl) rfl rfl rfl (by omega) k
theorem b13_8 {x : zXs} {F : zF} (hF : zSh F) {d : Nat} {V : Nat → Nat → Int32} {T : Nat → Nat → Int64} {Q : Option Value → zG → Prop} {o0 : Option Value} {o1 : Option Value} {s0 : Int32}   (k : Q (some (.int s0)) (V, T)) : E x F d 13 8 [o0, o1] [.int s0] (V, T) Q := by
  exact e_ireti zd13_8 zs13 k
theorem zd14_0 : zop 14 0 = some (.aload_n 0, 1) := by decide +kernel
theorem zd14_1 : zop 14 1 = some (.getfield 15, 3) := by decide +kernel
theorem zd14_4 : zop 14 4 = some (.iload_n 1, 1) := by decide +kernel
theorem zd14_5 : zop 14 5 = some (.iaload, 1) := by decide +kernel
theorem zd14_6 : zop 14 6 = some (.iconst (-1), 1) := by decide +kernel
theorem zd14_7 : zop 14 7 = some (.ixor, 1) := by decide +kernel
theorem zd14_8 : zop 14 8 = some (.iconst 1, 1) := by decide +kernel
theorem zd14_9 : zop 14 9 = some (.aload_n 0, 1) := by decide +kernel
theorem zd14_10 : zop 14 10 = some (.getfield 9, 3) := by decide +kernel
theorem zd14_13 : zop 14 13 = some (.iload_n 1, 1) := by decide +kernel
theorem zd14_14 : zop 14 14 = some (.iaload, 1) := by decide +kernel
theorem zd14_15 : zop 14 15 = some (.ishl, 1) := by decide +kernel
theorem zd14_16 : zop 14 16 = some (.iconst 1, 1) := by decide +kernel
theorem zd14_17 : zop 14 17 = some (.isub, 1) := by decide +kernel
theorem zd14_18 : zop 14 18 = some (.iand, 1) := by decide +kernel
theorem zd14_19 : zop 14 19 = some (.ireturn, 1) := by decide +kernel
theorem b14_0 {x : zXs} {F : zF} (hF : zSh F) {d : Nat} {V : Nat → Nat → Int32} {T : Nat → Nat → Int64} {Q : Option Value → zG → Prop} {l0 : Nat} {l1 : Int32} (hl0 : zSt l0) {i1 : Nat} (e1 : l1 = nI i1) (h1 : i1 < 4) {i2 : Nat} (e2 : l1 = nI i2) (h2 : i2 < 4) (k : Q (some (.int (((V (l0 + 2) i1) ^^^ (Int32.ofInt (-1))) &&& (((Int32.ofInt 1) <<< ((V (l0 + 1) i2) &&& 31)) - (Int32.ofInt 1))))) (V, T)) : E x F d 14 0 [some (.ref l0), some (.int l1)] [] (V, T) Q := by
  refine e_aload_n zd14_0 rfl rfl ?_
  refine e_getA zd14_1 (own := 4) (ci := 4) (kf := 1) (w := 113) (by decide +kernel) (by decide +kernel) (zSt_s hF hl0).1 (by decide +kernel) rfl (zSt_f1 hF hl0) ?_
  refine e_iload_n zd14_4 rfl ?_
  refine e_iald zd14_5 (i := i1) (zSt_a1 hF hl0) e1 h1 (by omega) ?_
  refine e_iconst zd14_6 ?_
  refine e_ixor zd14_7 ?_
  refine e_iconst zd14_8 ?_
  refine e_aload_n zd14_9 rfl rfl ?_
  refine e_getA zd14_10 (own := 4) (ci := 4) (kf := 0) (w := 110) (by decide +kernel) (by decide +kernel) (zSt_s hF hl0).1 (by decide +kernel) rfl (zSt_f0 hF hl0) ?_
  refine e_iload_n zd14_13 rfl ?_
  refine e_iald zd14_14 (i := i2) (zSt_a0 hF hl0) e2 h2 (by omega) ?_
  refine e_ishl zd14_15 ?_
  refine e_iconst zd14_16 ?_
  refine e_isub zd14_17 ?_
  refine e_iand zd14_18 ?_
  exact e_ireti zd14_19 zs14 k
theorem zd15_0 : zop 15 0 = some (.iload_n 0, 1) := by decide +kernel
theorem zd15_1 : zop 15 1 = some (.iload_n 0, 1) := by decide +kernel
theorem zd15_2 : zop 15 2 = some (.iconst 1, 1) := by decide +kernel
theorem zd15_3 : zop 15 3 = some (.iushr, 1) := by decide +kernel
theorem zd15_4 : zop 15 4 = some (.ldc_w 265, 3) := by decide +kernel
theorem zd15_7 : zop 15 7 = some (.iand, 1) := by decide +kernel
theorem zd15_8 : zop 15 8 = some (.isub, 1) := by decide +kernel
theorem zd15_9 : zop 15 9 = some (.istore_n 0, 1) := by decide +kernel
theorem zd15_10 : zop 15 10 = some (.iload_n 0, 1) := by decide +kernel
theorem zd15_11 : zop 15 11 = some (.ldc_w 266, 3) := by decide +kernel
theorem zd15_14 : zop 15 14 = some (.iand, 1) := by decide +kernel
theorem zd15_15 : zop 15 15 = some (.iload_n 0, 1) := by decide +kernel
theorem zd15_16 : zop 15 16 = some (.iconst 2, 1) := by decide +kernel
theorem zd15_17 : zop 15 17 = some (.iushr, 1) := by decide +kernel
theorem zd15_18 : zop 15 18 = some (.ldc_w 266, 3) := by decide +kernel
theorem zd15_21 : zop 15 21 = some (.iand, 1) := by decide +kernel
theorem zd15_22 : zop 15 22 = some (.iadd, 1) := by decide +kernel
theorem zd15_23 : zop 15 23 = some (.istore_n 0, 1) := by decide +kernel
theorem zd15_24 : zop 15 24 = some (.iload_n 0, 1) := by decide +kernel
theorem zd15_25 : zop 15 25 = some (.iload_n 0, 1) := by decide +kernel
theorem zd15_26 : zop 15 26 = some (.iconst 4, 1) := by decide +kernel
theorem zd15_27 : zop 15 27 = some (.iushr, 1) := by decide +kernel
theorem zd15_28 : zop 15 28 = some (.iadd, 1) := by decide +kernel
theorem zd15_29 : zop 15 29 = some (.ldc_w 267, 3) := by decide +kernel
theorem zd15_32 : zop 15 32 = some (.iand, 1) := by decide +kernel
theorem zd15_33 : zop 15 33 = some (.istore_n 0, 1) := by decide +kernel
theorem zd15_34 : zop 15 34 = some (.iload_n 0, 1) := by decide +kernel
theorem zd15_35 : zop 15 35 = some (.iload_n 0, 1) := by decide +kernel
theorem zd15_36 : zop 15 36 = some (.bipush 8, 2) := by decide +kernel
theorem zd15_38 : zop 15 38 = some (.iushr, 1) := by decide +kernel
theorem zd15_39 : zop 15 39 = some (.iadd, 1) := by decide +kernel
theorem zd15_40 : zop 15 40 = some (.istore_n 0, 1) := by decide +kernel
theorem zd15_41 : zop 15 41 = some (.iload_n 0, 1) := by decide +kernel
theorem zd15_42 : zop 15 42 = some (.iload_n 0, 1) := by decide +kernel
theorem zd15_43 : zop 15 43 = some (.bipush 16, 2) := by decide +kernel
theorem zd15_45 : zop 15 45 = some (.iushr, 1) := by decide +kernel
theorem zd15_46 : zop 15 46 = some (.iadd, 1) := by decide +kernel
theorem zd15_47 : zop 15 47 = some (.istore_n 0, 1) := by decide +kernel
theorem zd15_48 : zop 15 48 = some (.iload_n 0, 1) := by decide +kernel
theorem zd15_49 : zop 15 49 = some (.bipush 63, 2) := by decide +kernel
theorem zd15_51 : zop 15 51 = some (.iand, 1) := by decide +kernel
theorem zd15_52 : zop 15 52 = some (.ireturn, 1) := by decide +kernel
theorem b15_0 {x : zXs} {F : zF} (hF : zSh F) {d : Nat} {V : Nat → Nat → Int32} {T : Nat → Nat → Int64} {Q : Option Value → zG → Prop} {l0 : Int32}   (k : Q (some (.int ((((((((l0 - (((l0.toUInt32 >>> ((Int32.ofInt 1).toUInt32 &&& Int32.toUInt32 31)).toInt32) &&& (1431655765 : Int32))) &&& (858993459 : Int32)) + ((((l0 - (((l0.toUInt32 >>> ((Int32.ofInt 1).toUInt32 &&& Int32.toUInt32 31)).toInt32) &&& (1431655765 : Int32))).toUInt32 >>> ((Int32.ofInt 2).toUInt32 &&& Int32.toUInt32 31)).toInt32) &&& (858993459 : Int32))) + (((((l0 - (((l0.toUInt32 >>> ((Int32.ofInt 1).toUInt32 &&& Int32.toUInt32 31)).toInt32) &&& (1431655765 : Int32))) &&& (858993459 : Int32)) + ((((l0 - (((l0.toUInt32 >>> ((Int32.ofInt 1).toUInt32 &&& Int32.toUInt32 31)).toInt32) &&& (1431655765 : Int32))).toUInt32 >>> ((Int32.ofInt 2).toUInt32 &&& Int32.toUInt32 31)).toInt32) &&& (858993459 : Int32))).toUInt32 >>> ((Int32.ofInt 4).toUInt32 &&& Int32.toUInt32 31)).toInt32)) &&& (252645135 : Int32)) + (((((((l0 - (((l0.toUInt32 >>> ((Int32.ofInt 1).toUInt32 &&& Int32.toUInt32 31)).toInt32) &&& (1431655765 : Int32))) &&& (858993459 : Int32)) + ((((l0 - (((l0.toUInt32 >>> ((Int32.ofInt 1).toUInt32 &&& Int32.toUInt32 31)).toInt32) &&& (1431655765 : Int32))).toUInt32 >>> ((Int32.ofInt 2).toUInt32 &&& Int32.toUInt32 31)).toInt32) &&& (858993459 : Int32))) + (((((l0 - (((l0.toUInt32 >>> ((Int32.ofInt 1).toUInt32 &&& Int32.toUInt32 31)).toInt32) &&& (1431655765 : Int32))) &&& (858993459 : Int32)) + ((((l0 - (((l0.toUInt32 >>> ((Int32.ofInt 1).toUInt32 &&& Int32.toUInt32 31)).toInt32) &&& (1431655765 : Int32))).toUInt32 >>> ((Int32.ofInt 2).toUInt32 &&& Int32.toUInt32 31)).toInt32) &&& (858993459 : Int32))).toUInt32 >>> ((Int32.ofInt 4).toUInt32 &&& Int32.toUInt32 31)).toInt32)) &&& (252645135 : Int32)).toUInt32 >>> ((Int32.ofInt 8).toUInt32 &&& Int32.toUInt32 31)).toInt32)) + ((((((((l0 - (((l0.toUInt32 >>> ((Int32.ofInt 1).toUInt32 &&& Int32.toUInt32 31)).toInt32) &&& (1431655765 : Int32))) &&& (858993459 : Int32)) + ((((l0 - (((l0.toUInt32 >>> ((Int32.ofInt 1).toUInt32 &&& Int32.toUInt32 31)).toInt32) &&& (1431655765 : Int32))).toUInt32 >>> ((Int32.ofInt 2).toUInt32 &&& Int32.toUInt32 31)).toInt32) &&& (858993459 : Int32))) + (((((l0 - (((l0.toUInt32 >>> ((Int32.ofInt 1).toUInt32 &&& Int32.toUInt32 31)).toInt32) &&& (1431655765 : Int32))) &&& (858993459 : Int32)) + ((((l0 - (((l0.toUInt32 >>> ((Int32.ofInt 1).toUInt32 &&& Int32.toUInt32 31)).toInt32) &&& (1431655765 : Int32))).toUInt32 >>> ((Int32.ofInt 2).toUInt32 &&& Int32.toUInt32 31)).toInt32) &&& (858993459 : Int32))).toUInt32 >>> ((Int32.ofInt 4).toUInt32 &&& Int32.toUInt32 31)).toInt32)) &&& (252645135 : Int32)) + (((((((l0 - (((l0.toUInt32 >>> ((Int32.ofInt 1).toUInt32 &&& Int32.toUInt32 31)).toInt32) &&& (1431655765 : Int32))) &&& (858993459 : Int32)) + ((((l0 - (((l0.toUInt32 >>> ((Int32.ofInt 1).toUInt32 &&& Int32.toUInt32 31)).toInt32) &&& (1431655765 : Int32))).toUInt32 >>> ((Int32.ofInt 2).toUInt32 &&& Int32.toUInt32 31)).toInt32) &&& (858993459 : Int32))) + (((((l0 - (((l0.toUInt32 >>> ((Int32.ofInt 1).toUInt32 &&& Int32.toUInt32 31)).toInt32) &&& (1431655765 : Int32))) &&& (858993459 : Int32)) + ((((l0 - (((l0.toUInt32 >>> ((Int32.ofInt 1).toUInt32 &&& Int32.toUInt32 31)).toInt32) &&& (1431655765 : Int32))).toUInt32 >>> ((Int32.ofInt 2).toUInt32 &&& Int32.toUInt32 31)).toInt32) &&& (858993459 : Int32))).toUInt32 >>> ((Int32.ofInt 4).toUInt32 &&& Int32.toUInt32 31)).toInt32)) &&& (252645135 : Int32)).toUInt32 >>> ((Int32.ofInt 8).toUInt32 &&& Int32.toUInt32 31)).toInt32)).toUInt32 >>> ((Int32.ofInt 16).toUInt32 &&& Int32.toUInt32 31)).toInt32)) &&& (Int32.ofInt 63)))) (V, T)) : E x F d 15 0 [some (.int l0)] [] (V, T) Q := by
  refine e_iload_n zd15_0 rfl ?_
  refine e_iload_n zd15_1 rfl ?_
  refine e_iconst zd15_2 ?_
  refine e_iushr zd15_3 ?_
  refine e_ldcw zd15_4 (own := 9) (w := 346) (v := 1431655765) (by decide +kernel) (by decide +kernel) ?_
  refine e_iand zd15_7 ?_
  refine e_isub zd15_8 ?_
  refine e_istore_n zd15_9 (by decide +kernel) (Nat.le_of_ble_eq_true rfl) ?_
  refine e_iload_n zd15_10 rfl ?_
  refine e_ldcw zd15_11 (own := 9) (w := 347) (v := 858993459) (by decide +kernel) (by decide +kernel) ?_
  refine e_iand zd15_14 ?_
  refine e_iload_n zd15_15 rfl ?_
  refine e_iconst zd15_16 ?_
  refine e_iushr zd15_17 ?_
  refine e_ldcw zd15_18 (own := 9) (w := 347) (v := 858993459) (by decide +kernel) (by decide +kernel) ?_
  refine e_iand zd15_21 ?_
  refine e_iadd zd15_22 ?_
  refine e_istore_n zd15_23 (by decide +kernel) (Nat.le_of_ble_eq_true rfl) ?_
  refine e_iload_n zd15_24 rfl ?_
  refine e_iload_n zd15_25 rfl ?_
  refine e_iconst zd15_26 ?_
  refine e_iushr zd15_27 ?_
  refine e_iadd zd15_28 ?_
  refine e_ldcw zd15_29 (own := 9) (w := 348) (v := 252645135) (by decide +kernel) (by decide +kernel) ?_
  refine e_iand zd15_32 ?_
  refine e_istore_n zd15_33 (by decide +kernel) (Nat.le_of_ble_eq_true rfl) ?_
  refine e_iload_n zd15_34 rfl ?_
  refine e_iload_n zd15_35 rfl ?_
  refine e_bipush zd15_36 (v := Int32.ofInt 8) (by decide +kernel) ?_
  refine e_iushr zd15_38 ?_
  refine e_iadd zd15_39 ?_
  refine e_istore_n zd15_40 (by decide +kernel) (Nat.le_of_ble_eq_true rfl) ?_
  refine e_iload_n zd15_41 rfl ?_
  refine e_iload_n zd15_42 rfl ?_
  refine e_bipush zd15_43 (v := Int32.ofInt 16) (by decide +kernel) ?_
  refine e_iushr zd15_45 ?_
  refine e_iadd zd15_46 ?_
  refine e_istore_n zd15_47 (by decide +kernel) (Nat.le_of_ble_eq_true rfl) ?_
  refine e_iload_n zd15_48 rfl ?_
  refine e_bipush zd15_49 (v := Int32.ofInt 63) (by decide +kernel) ?_
  refine e_iand zd15_51 ?_
  exact e_ireti zd15_52 zs15 k
theorem zd16_0 : zop 16 0 = some (.iload_n 1, 1) := by decide +kernel
theorem zd16_1 : zop 16 1 = some (.tableswitch 108 0 2 #[27, 49, 78], 27) := by decide +kernel
theorem zd16_28 : zop 16 28 = some (.iload_n 3, 1) := by decide +kernel
theorem zd16_29 : zop 16 29 = some (.iconst 0, 1) := by decide +kernel
theorem zd16_30 : zop 16 30 = some (.sipush 999, 3) := by decide +kernel
theorem zd16_33 : zop 16 33 = some (.invokestatic 59, 3) := by decide +kernel
theorem zd16_36 : zop 16 36 = some (.ifCond .eq 11, 3) := by decide +kernel
theorem zd16_39 : zop 16 39 = some (.aload_n 0, 1) := by decide +kernel
theorem zd16_40 : zop 16 40 = some (.iload_n 3, 1) := by decide +kernel
theorem zd16_41 : zop 16 41 = some (.invokevirtual 74, 3) := by decide +kernel
theorem zd16_44 : zop 16 44 = some (.goto 5, 3) := by decide +kernel
theorem zd16_47 : zop 16 47 = some (.bipush (-2), 2) := by decide +kernel
theorem zd16_49 : zop 16 49 = some (.ireturn, 1) := by decide +kernel
theorem zd16_50 : zop 16 50 = some (.iload_n 3, 1) := by decide +kernel
theorem zd16_51 : zop 16 51 = some (.iconst 0, 1) := by decide +kernel
theorem zd16_52 : zop 16 52 = some (.bipush 9, 2) := by decide +kernel
theorem zd16_54 : zop 16 54 = some (.invokestatic 59, 3) := by decide +kernel
theorem zd16_57 : zop 16 57 = some (.ifCond .eq 19, 3) := by decide +kernel
theorem zd16_60 : zop 16 60 = some (.aload_n 0, 1) := by decide +kernel
theorem zd16_61 : zop 16 61 = some (.aload_n 0, 1) := by decide +kernel
theorem zd16_62 : zop 16 62 = some (.getfield 10, 3) := by decide +kernel
theorem zd16_65 : zop 16 65 = some (.getfield 77, 3) := by decide +kernel
theorem zd16_68 : zop 16 68 = some (.iload_n 2, 1) := by decide +kernel
theorem zd16_69 : zop 16 69 = some (.iload_n 3, 1) := by decide +kernel
theorem zd16_70 : zop 16 70 = some (.invokevirtual 80, 3) := by decide +kernel
theorem zd16_73 : zop 16 73 = some (.goto 5, 3) := by decide +kernel
theorem zd16_76 : zop 16 76 = some (.bipush (-2), 2) := by decide +kernel
theorem zd16_78 : zop 16 78 = some (.ireturn, 1) := by decide +kernel
theorem zd16_79 : zop 16 79 = some (.iload_n 3, 1) := by decide +kernel
theorem zd16_80 : zop 16 80 = some (.iconst 0, 1) := by decide +kernel
theorem zd16_81 : zop 16 81 = some (.sipush 999, 3) := by decide +kernel
theorem zd16_84 : zop 16 84 = some (.invokestatic 59, 3) := by decide +kernel
theorem zd16_87 : zop 16 87 = some (.ifCond .eq 19, 3) := by decide +kernel
theorem zd16_90 : zop 16 90 = some (.aload_n 0, 1) := by decide +kernel
theorem zd16_91 : zop 16 91 = some (.aload_n 0, 1) := by decide +kernel
theorem zd16_92 : zop 16 92 = some (.getfield 10, 3) := by decide +kernel
theorem zd16_95 : zop 16 95 = some (.getfield 84, 3) := by decide +kernel
theorem zd16_98 : zop 16 98 = some (.iload_n 2, 1) := by decide +kernel
theorem zd16_99 : zop 16 99 = some (.iload_n 3, 1) := by decide +kernel
theorem zd16_100 : zop 16 100 = some (.invokevirtual 80, 3) := by decide +kernel
theorem zd16_103 : zop 16 103 = some (.goto 5, 3) := by decide +kernel
theorem zd16_106 : zop 16 106 = some (.bipush (-2), 2) := by decide +kernel
theorem zd16_108 : zop 16 108 = some (.ireturn, 1) := by decide +kernel
theorem zd16_109 : zop 16 109 = some (.bipush (-2), 2) := by decide +kernel
theorem zd16_111 : zop 16 111 = some (.ireturn, 1) := by decide +kernel
theorem b16_0 {x : zXs} {F : zF} (hF : zSh F) {d : Nat} {V : Nat → Nat → Int32} {T : Nat → Nat → Int64} {Q : Option Value → zG → Prop} {o0 : Option Value} {l1 : Int32} {o2 : Option Value} {o3 : Option Value}   (k0 : l1 = Int32.ofInt 0 → E x F d 16 28 [o0, some (.int l1), o2, o3] [] (V, T) Q) (k1 : l1 = Int32.ofInt 1 → E x F d 16 50 [o0, some (.int l1), o2, o3] [] (V, T) Q) (k2 : l1 = Int32.ofInt 2 → E x F d 16 79 [o0, some (.int l1), o2, o3] [] (V, T) Q) (kd : ¬ l1 = Int32.ofInt 0 ∧ ¬ l1 = Int32.ofInt 1 ∧ ¬ l1 = Int32.ofInt 2 → E x F d 16 109 [o0, some (.int l1), o2, o3] [] (V, T) Q) : E x F d 16 0 [o0, some (.int l1), o2, o3] [] (V, T) Q := by
  refine e_iload_n zd16_0 rfl ?_
  by_cases c0 : l1 = Int32.ofInt 0
  · exact e_tableIn zd16_1 (off := 27) (by rw [c0]; decide +kernel) (by rw [c0]; decide +kernel) (tg := 28) rfl (k0 c0)
  by_cases c1 : l1 = Int32.ofInt 1
  · exact e_tableIn zd16_1 (off := 49) (by rw [c1]; decide +kernel) (by rw [c1]; decide +kernel) (tg := 50) rfl (k1 c1)
  by_cases c2 : l1 = Int32.ofInt 2
  · exact e_tableIn zd16_1 (off := 78) (by rw [c2]; decide +kernel) (by rw [c2]; decide +kernel) (tg := 79) rfl (k2 c2)
  exact e_tableOut zd16_1 (zsw_out (lo := 0) (hi := 2) (by decide) (by decide) (fun v h1 h2 h => by
    rcases (show v = 0 ∨ v = 1 ∨ v = 2 by omega) with rfl | rfl | rfl
    · exact c0 h
    · exact c1 h
    · exact c2 h)) (tg := 109) rfl (kd ⟨c0, c1, c2⟩)
theorem b16_28 {x : zXs} {F : zF} (hF : zSh F) {d : Nat} {V : Nat → Nat → Int32} {T : Nat → Nat → Int64} {Q : Option Value → zG → Prop} {o0 : Option Value} {o1 : Option Value} {o2 : Option Value} {l3 : Int32}   (k : E x F d 7 0 [some (.int l3), some (.int (Int32.ofInt 0)), some (.int (Int32.ofInt 999))] [] (V, T) (fun r G' => E x F (d + 1) 16 36 [o0, o1, o2, some (.int l3)] (r.toList ++ []) G' Q)) : E x F (d + 1) 16 28 [o0, o1, o2, some (.int l3)] [] (V, T) Q := by
  refine e_iload_n zd16_28 rfl ?_
  refine e_iconst zd16_29 ?_
  refine e_sipush zd16_30 (v := Int32.ofInt 999) (by decide +kernel) ?_
  exact e_callS zd16_33 (own := 7) (nest := false) (w := 334) (by decide +kernel) (by decide +kernel) zs7 (as := [.int l3, .int (Int32.ofInt 0), .int (Int32.ofInt 999)]) (rest := []) rfl rfl (Nat.le_of_ble_eq_true rfl) rfl rfl rfl (by omega) k
theorem b16_36 {x : zXs} {F : zF} (hF : zSh F) {d : Nat} {V : Nat → Nat → Int32} {T : Nat → Nat → Int64} {Q : Option Value → zG → Prop} {o0 : Option Value} {o1 : Option Value} {o2 : Option Value} {o3 : Option Value} {s0 : Int32}   (kt : s0 = 0 → E x F d 16 47 [o0, o1, o2, o3] [] (V, T) Q) (kf : ¬ (s0 = 0) → E x F d 16 39 [o0, o1, o2, o3] [] (V, T) Q) : E x F d 16 36 [o0, o1, o2, o3] [.int s0] (V, T) Q := by
  exact e_if_eq zd16_36 (tg := 47) rfl kt kf
theorem b16_39 {x : zXs} {F : zF} (hF : zSh F) {d : Nat} {V : Nat → Nat → Int32} {T : Nat → Nat → Int64} {Q : Option Value → zG → Prop} {o1 : Option Value} {o2 : Option Value} {l3 : Int32}   (k : E x F d 17 0 [some (.ref 0), some (.int l3), none] [] (V, T) (fun r G' => E x F (d + 1) 16 44 [some (.ref 0), o1, o2, some (.int l3)] (r.toList ++ []) G' Q)) : E x F (d + 1) 16 39 [some (.ref 0), o1, o2, some (.int l3)] [] (V, T) Q := by
  refine e_aload_n zd16_39 rfl rfl ?_
  refine e_iload_n zd16_40 rfl ?_
  exact e_callV zd16_41 (own := 7) (nest := false) (w := 353) (by decide +kernel) (by decide +kernel) zs17 (as := [.int l3]) (rest := []) rfl rfl (zsh_at hF rfl).1 (by omega) (Nat.le_of_ble_eq_true rfl) rfl rfl rfl (by omega) k
theorem b16_44 {x : zXs} {F : zF} (hF : zSh F) {d : Nat} {V : Nat → Nat → Int32} {T : Nat → Nat → Int64} {Q : Option Value → zG → Prop} {o0 : Option Value} {o1 : Option Value} {o2 : Option Value} {o3 : Option Value} {s0 : Int32}   (k : E x F d 16 49 [o0, o1, o2, o3] [.int s0] (V, T) Q) : E x F d 16 44 [o0, o1, o2, o3] [.int s0] (V, T) Q := by
  exact e_goto zd16_44 (tg := 49) rfl k
theorem b16_47 {x : zXs} {F : zF} (hF : zSh F) {d : Nat} {V : Nat → Nat → Int32} {T : Nat → Nat → Int64} {Q : Option Value → zG → Prop} {o0 : Option Value} {o1 : Option Value} {o2 : Option Value} {o3 : Option Value}   (k : E x F d 16 49 [o0, o1, o2, o3] [.int (Int32.ofInt (-2))] (V, T) Q) : E x F d 16 47 [o0, o1, o2, o3] [] (V, T) Q := by
  refine e_bipush zd16_47 (v := Int32.ofInt (-2)) (by decide +kernel) ?_
  exact k
theorem b16_49 {x : zXs} {F : zF} (hF : zSh F) {d : Nat} {V : Nat → Nat → Int32} {T : Nat → Nat → Int64} {Q : Option Value → zG → Prop} {o0 : Option Value} {o1 : Option Value} {o2 : Option Value} {o3 : Option Value} {s0 : Int32}   (k : Q (some (.int s0)) (V, T)) : E x F d 16 49 [o0, o1, o2, o3] [.int s0] (V, T) Q := by
  exact e_ireti zd16_49 zs16 k
theorem b16_50 {x : zXs} {F : zF} (hF : zSh F) {d : Nat} {V : Nat → Nat → Int32} {T : Nat → Nat → Int64} {Q : Option Value → zG → Prop} {o0 : Option Value} {o1 : Option Value} {o2 : Option Value} {l3 : Int32}   (k : E x F d 7 0 [some (.int l3), some (.int (Int32.ofInt 0)), some (.int (Int32.ofInt 9))] [] (V, T) (fun r G' => E x F (d + 1) 16 57 [o0, o1, o2, some (.int l3)] (r.toList ++ []) G' Q)) : E x F (d + 1) 16 50 [o0, o1, o2, some (.int l3)] [] (V, T) Q := by
  refine e_iload_n zd16_50 rfl ?_
  refine e_iconst zd16_51 ?_
  refine e_bipush zd16_52 (v := Int32.ofInt 9) (by decide +kernel) ?_
  exact e_callS zd16_54 (own := 7) (nest := false) (w := 334) (by decide +kernel) (by decide +kernel) zs7 (as := [.int l3, .int (Int32.ofInt 0), .int (Int32.ofInt 9)]) (rest := []) rfl rfl (Nat.le_of_ble_eq_true rfl) rfl rfl rfl (by omega) k
theorem b16_57 {x : zXs} {F : zF} (hF : zSh F) {d : Nat} {V : Nat → Nat → Int32} {T : Nat → Nat → Int64} {Q : Option Value → zG → Prop} {o0 : Option Value} {o1 : Option Value} {o2 : Option Value} {o3 : Option Value} {s0 : Int32}   (kt : s0 = 0 → E x F d 16 76 [o0, o1, o2, o3] [] (V, T) Q) (kf : ¬ (s0 = 0) → E x F d 16 60 [o0, o1, o2, o3] [] (V, T) Q) : E x F d 16 57 [o0, o1, o2, o3] [.int s0] (V, T) Q := by
  exact e_if_eq zd16_57 (tg := 76) rfl kt kf
theorem b16_60 {x : zXs} {F : zF} (hF : zSh F) {d : Nat} {V : Nat → Nat → Int32} {T : Nat → Nat → Int64} {Q : Option Value → zG → Prop} {o1 : Option Value} {l2 : Int32} {l3 : Int32}   (k : E x F d 18 0 [some (.ref 0), some (.ref 5), some (.int l2), some (.int l3), none] [] (V, T) (fun r G' => E x F (d + 1) 16 73 [some (.ref 0), o1, some (.int l2), some (.int l3)] (r.toList ++ []) G' Q)) : E x F (d + 1) 16 60 [some (.ref 0), o1, some (.int l2), some (.int l3)] [] (V, T) Q := by
  refine e_aload_n zd16_60 rfl rfl ?_
  refine e_aload_n zd16_61 rfl rfl ?_
  refine e_getO zd16_62 (own := 7) (ci := 7) (kf := 0) (w := 297) (by decide +kernel) (by decide +kernel) (zsh_at hF rfl).1 (by decide +kernel) rfl (zrf_at hF (i := 0) rfl) ?_
  refine e_getA zd16_65 (own := 7) (ci := 4) (kf := 3) (w := 121) (by decide +kernel) (by decide +kernel) (zsh_at hF rfl).1 (by decide +kernel) rfl (zrf_at hF (i := 11) rfl) ?_
  refine e_iload_n zd16_68 rfl ?_
  refine e_iload_n zd16_69 rfl ?_
  exact e_callV zd16_70 (own := 7) (nest := false) (w := 357) (by decide +kernel) (by decide +kernel) zs18 (as := [.ref 5, .int l2, .int l3]) (rest := []) rfl rfl (zsh_at hF rfl).1 (by omega) (Nat.le_of_ble_eq_true rfl) rfl rfl rfl (by omega) k
theorem b16_73 {x : zXs} {F : zF} (hF : zSh F) {d : Nat} {V : Nat → Nat → Int32} {T : Nat → Nat → Int64} {Q : Option Value → zG → Prop} {o0 : Option Value} {o1 : Option Value} {o2 : Option Value} {o3 : Option Value} {s0 : Int32}   (k : E x F d 16 78 [o0, o1, o2, o3] [.int s0] (V, T) Q) : E x F d 16 73 [o0, o1, o2, o3] [.int s0] (V, T) Q := by
  exact e_goto zd16_73 (tg := 78) rfl k
theorem b16_76 {x : zXs} {F : zF} (hF : zSh F) {d : Nat} {V : Nat → Nat → Int32} {T : Nat → Nat → Int64} {Q : Option Value → zG → Prop} {o0 : Option Value} {o1 : Option Value} {o2 : Option Value} {o3 : Option Value}   (k : E x F d 16 78 [o0, o1, o2, o3] [.int (Int32.ofInt (-2))] (V, T) Q) : E x F d 16 76 [o0, o1, o2, o3] [] (V, T) Q := by
  refine e_bipush zd16_76 (v := Int32.ofInt (-2)) (by decide +kernel) ?_
  exact k
theorem b16_78 {x : zXs} {F : zF} (hF : zSh F) {d : Nat} {V : Nat → Nat → Int32} {T : Nat → Nat → Int64} {Q : Option Value → zG → Prop} {o0 : Option Value} {o1 : Option Value} {o2 : Option Value} {o3 : Option Value} {s0 : Int32}   (k : Q (some (.int s0)) (V, T)) : E x F d 16 78 [o0, o1, o2, o3] [.int s0] (V, T) Q := by
  exact e_ireti zd16_78 zs16 k
theorem b16_79 {x : zXs} {F : zF} (hF : zSh F) {d : Nat} {V : Nat → Nat → Int32} {T : Nat → Nat → Int64} {Q : Option Value → zG → Prop} {o0 : Option Value} {o1 : Option Value} {o2 : Option Value} {l3 : Int32}   (k : E x F d 7 0 [some (.int l3), some (.int (Int32.ofInt 0)), some (.int (Int32.ofInt 999))] [] (V, T) (fun r G' => E x F (d + 1) 16 87 [o0, o1, o2, some (.int l3)] (r.toList ++ []) G' Q)) : E x F (d + 1) 16 79 [o0, o1, o2, some (.int l3)] [] (V, T) Q := by
  refine e_iload_n zd16_79 rfl ?_
  refine e_iconst zd16_80 ?_
  refine e_sipush zd16_81 (v := Int32.ofInt 999) (by decide +kernel) ?_
  exact e_callS zd16_84 (own := 7) (nest := false) (w := 334) (by decide +kernel) (by decide +kernel) zs7 (as := [.int l3, .int (Int32.ofInt 0), .int (Int32.ofInt 999)]) (rest := []) rfl rfl (Nat.le_of_ble_eq_true rfl) rfl rfl rfl (by omega) k
theorem b16_87 {x : zXs} {F : zF} (hF : zSh F) {d : Nat} {V : Nat → Nat → Int32} {T : Nat → Nat → Int64} {Q : Option Value → zG → Prop} {o0 : Option Value} {o1 : Option Value} {o2 : Option Value} {o3 : Option Value} {s0 : Int32}   (kt : s0 = 0 → E x F d 16 106 [o0, o1, o2, o3] [] (V, T) Q) (kf : ¬ (s0 = 0) → E x F d 16 90 [o0, o1, o2, o3] [] (V, T) Q) : E x F d 16 87 [o0, o1, o2, o3] [.int s0] (V, T) Q := by
  exact e_if_eq zd16_87 (tg := 106) rfl kt kf
theorem b16_90 {x : zXs} {F : zF} (hF : zSh F) {d : Nat} {V : Nat → Nat → Int32} {T : Nat → Nat → Int64} {Q : Option Value → zG → Prop} {o1 : Option Value} {l2 : Int32} {l3 : Int32}   (k : E x F d 18 0 [some (.ref 0), some (.ref 6), some (.int l2), some (.int l3), none] [] (V, T) (fun r G' => E x F (d + 1) 16 103 [some (.ref 0), o1, some (.int l2), some (.int l3)] (r.toList ++ []) G' Q)) : E x F (d + 1) 16 90 [some (.ref 0), o1, some (.int l2), some (.int l3)] [] (V, T) Q := by
  refine e_aload_n zd16_90 rfl rfl ?_
  refine e_aload_n zd16_91 rfl rfl ?_
  refine e_getO zd16_92 (own := 7) (ci := 7) (kf := 0) (w := 297) (by decide +kernel) (by decide +kernel) (zsh_at hF rfl).1 (by decide +kernel) rfl (zrf_at hF (i := 0) rfl) ?_
  refine e_getA zd16_95 (own := 7) (ci := 4) (kf := 4) (w := 125) (by decide +kernel) (by decide +kernel) (zsh_at hF rfl).1 (by decide +kernel) rfl (zrf_at hF (i := 12) rfl) ?_
  refine e_iload_n zd16_98 rfl ?_
  refine e_iload_n zd16_99 rfl ?_
  exact e_callV zd16_100 (own := 7) (nest := false) (w := 357) (by decide +kernel) (by decide +kernel) zs18 (as := [.ref 6, .int l2, .int l3]) (rest := []) rfl rfl (zsh_at hF rfl).1 (by omega) (Nat.le_of_ble_eq_true rfl) rfl rfl rfl (by omega) k
theorem b16_103 {x : zXs} {F : zF} (hF : zSh F) {d : Nat} {V : Nat → Nat → Int32} {T : Nat → Nat → Int64} {Q : Option Value → zG → Prop} {o0 : Option Value} {o1 : Option Value} {o2 : Option Value} {o3 : Option Value} {s0 : Int32}   (k : E x F d 16 108 [o0, o1, o2, o3] [.int s0] (V, T) Q) : E x F d 16 103 [o0, o1, o2, o3] [.int s0] (V, T) Q := by
  exact e_goto zd16_103 (tg := 108) rfl k
theorem b16_106 {x : zXs} {F : zF} (hF : zSh F) {d : Nat} {V : Nat → Nat → Int32} {T : Nat → Nat → Int64} {Q : Option Value → zG → Prop} {o0 : Option Value} {o1 : Option Value} {o2 : Option Value} {o3 : Option Value}   (k : E x F d 16 108 [o0, o1, o2, o3] [.int (Int32.ofInt (-2))] (V, T) Q) : E x F d 16 106 [o0, o1, o2, o3] [] (V, T) Q := by
  refine e_bipush zd16_106 (v := Int32.ofInt (-2)) (by decide +kernel) ?_
  exact k
theorem b16_108 {x : zXs} {F : zF} (hF : zSh F) {d : Nat} {V : Nat → Nat → Int32} {T : Nat → Nat → Int64} {Q : Option Value → zG → Prop} {o0 : Option Value} {o1 : Option Value} {o2 : Option Value} {o3 : Option Value} {s0 : Int32}   (k : Q (some (.int s0)) (V, T)) : E x F d 16 108 [o0, o1, o2, o3] [.int s0] (V, T) Q := by
  exact e_ireti zd16_108 zs16 k
theorem b16_109 {x : zXs} {F : zF} (hF : zSh F) {d : Nat} {V : Nat → Nat → Int32} {T : Nat → Nat → Int64} {Q : Option Value → zG → Prop} {o0 : Option Value} {o1 : Option Value} {o2 : Option Value} {o3 : Option Value}   (k : Q (some (.int (Int32.ofInt (-2)))) (V, T)) : E x F d 16 109 [o0, o1, o2, o3] [] (V, T) Q := by
  refine e_bipush zd16_109 (v := Int32.ofInt (-2)) (by decide +kernel) ?_
  exact e_ireti zd16_111 zs16 k
theorem zd17_0 : zop 17 0 = some (.aload_n 0, 1) := by decide +kernel
theorem zd17_1 : zop 17 1 = some (.getfield 10, 3) := by decide +kernel
theorem zd17_4 : zop 17 4 = some (.getfield 87, 3) := by decide +kernel
theorem zd17_7 : zop 17 7 = some (.istore_n 2, 1) := by decide +kernel
theorem zd17_8 : zop 17 8 = some (.aload_n 0, 1) := by decide +kernel
theorem zd17_9 : zop 17 9 = some (.getfield 10, 3) := by decide +kernel
theorem zd17_12 : zop 17 12 = some (.iload_n 1, 1) := by decide +kernel
theorem zd17_13 : zop 17 13 = some (.putfield 87, 3) := by decide +kernel
theorem zd17_16 : zop 17 16 = some (.iload_n 2, 1) := by decide +kernel
theorem zd17_17 : zop 17 17 = some (.ireturn, 1) := by decide +kernel
theorem b17_0 {x : zXs} {F : zF} (hF : zSh F) {d : Nat} {V : Nat → Nat → Int32} {T : Nat → Nat → Int64} {Q : Option Value → zG → Prop} {l1 : Int32} {o2 : Option Value}   (k : Q (some (.int (V 1 6))) (zu V 1 6 l1, T)) : E x F d 17 0 [some (.ref 0), some (.int l1), o2] [] (V, T) Q := by
  refine e_aload_n zd17_0 rfl rfl ?_
  refine e_getO zd17_1 (own := 7) (ci := 7) (kf := 0) (w := 297) (by decide +kernel) (by decide +kernel) (zsh_at hF rfl).1 (by decide +kernel) rfl (zrf_at hF (i := 0) rfl) ?_
  refine e_getI zd17_4 (own := 7) (ci := 4) (kf := 6) (w := 131) (by decide +kernel) (by decide +kernel) (zsh_at hF rfl).1 (by decide +kernel) rfl ?_
  refine e_istore_n zd17_7 (by decide +kernel) (Nat.le_of_ble_eq_true rfl) ?_
  refine e_aload_n zd17_8 rfl rfl ?_
  refine e_getO zd17_9 (own := 7) (ci := 7) (kf := 0) (w := 297) (by decide +kernel) (by decide +kernel) (zsh_at hF rfl).1 (by decide +kernel) rfl (zrf_at hF (i := 0) rfl) ?_
  refine e_iload_n zd17_12 rfl ?_
  refine e_putI zd17_13 (own := 7) (ci := 4) (kf := 6) (w := 131) (by decide +kernel) (by decide +kernel) (zsh_at hF rfl).1 (by decide +kernel) rfl ?_
  refine e_iload_n zd17_16 rfl ?_
  exact e_ireti zd17_17 zs17 k
theorem zd18_0 : zop 18 0 = some (.aload_n 0, 1) := by decide +kernel
theorem zd18_1 : zop 18 1 = some (.getfield 10, 3) := by decide +kernel
theorem zd18_4 : zop 18 4 = some (.iload_n 2, 1) := by decide +kernel
theorem zd18_5 : zop 18 5 = some (.invokevirtual 91, 3) := by decide +kernel
theorem zd18_8 : zop 18 8 = some (.ifCond .ne 6, 3) := by decide +kernel
theorem zd18_11 : zop 18 11 = some (.bipush (-2), 2) := by decide +kernel
theorem zd18_13 : zop 18 13 = some (.ireturn, 1) := by decide +kernel
theorem zd18_14 : zop 18 14 = some (.aload_n 1, 1) := by decide +kernel
theorem zd18_15 : zop 18 15 = some (.iload_n 2, 1) := by decide +kernel
theorem zd18_16 : zop 18 16 = some (.iaload, 1) := by decide +kernel
theorem zd18_17 : zop 18 17 = some (.istore 4, 2) := by decide +kernel
theorem zd18_19 : zop 18 19 = some (.aload_n 1, 1) := by decide +kernel
theorem zd18_20 : zop 18 20 = some (.iload_n 2, 1) := by decide +kernel
theorem zd18_21 : zop 18 21 = some (.iload_n 3, 1) := by decide +kernel
theorem zd18_22 : zop 18 22 = some (.iastore, 1) := by decide +kernel
theorem zd18_23 : zop 18 23 = some (.iload 4, 2) := by decide +kernel
theorem zd18_25 : zop 18 25 = some (.ireturn, 1) := by decide +kernel
theorem b18_0 {x : zXs} {F : zF} (hF : zSh F) {d : Nat} {V : Nat → Nat → Int32} {T : Nat → Nat → Int64} {Q : Option Value → zG → Prop} {o1 : Option Value} {l2 : Int32} {o3 : Option Value} {o4 : Option Value}   (k : E x F d 19 0 [some (.ref 1), some (.int l2)] [] (V, T) (fun r G' => E x F (d + 1) 18 8 [some (.ref 0), o1, some (.int l2), o3, o4] (r.toList ++ []) G' Q)) : E x F (d + 1) 18 0 [some (.ref 0), o1, some (.int l2), o3, o4] [] (V, T) Q := by
  refine e_aload_n zd18_0 rfl rfl ?_
  refine e_getO zd18_1 (own := 7) (ci := 7) (kf := 0) (w := 297) (by decide +kernel) (by decide +kernel) (zsh_at hF rfl).1 (by decide +kernel) rfl (zrf_at hF (i := 0) rfl) ?_
  refine e_iload_n zd18_4 rfl ?_
  exact e_callV zd18_5 (own := 7) (nest := false) (w := 361) (by decide +kernel) (by decide +kernel) zs19 (as := [.int l2]) (rest := []) rfl rfl (zsh_at hF rfl).1 (by omega) (Nat.le_of_ble_eq_true rfl) rfl rfl rfl (by omega) k
theorem b18_8 {x : zXs} {F : zF} (hF : zSh F) {d : Nat} {V : Nat → Nat → Int32} {T : Nat → Nat → Int64} {Q : Option Value → zG → Prop} {o0 : Option Value} {o1 : Option Value} {o2 : Option Value} {o3 : Option Value} {o4 : Option Value} {s0 : Int32}   (kt : ¬ s0 = 0 → E x F d 18 14 [o0, o1, o2, o3, o4] [] (V, T) Q) (kf : ¬ (¬ s0 = 0) → E x F d 18 11 [o0, o1, o2, o3, o4] [] (V, T) Q) : E x F d 18 8 [o0, o1, o2, o3, o4] [.int s0] (V, T) Q := by
  exact e_if_ne zd18_8 (tg := 14) rfl kt kf
theorem b18_11 {x : zXs} {F : zF} (hF : zSh F) {d : Nat} {V : Nat → Nat → Int32} {T : Nat → Nat → Int64} {Q : Option Value → zG → Prop} {o0 : Option Value} {o1 : Option Value} {o2 : Option Value} {o3 : Option Value} {o4 : Option Value}   (k : Q (some (.int (Int32.ofInt (-2)))) (V, T)) : E x F d 18 11 [o0, o1, o2, o3, o4] [] (V, T) Q := by
  refine e_bipush zd18_11 (v := Int32.ofInt (-2)) (by decide +kernel) ?_
  exact e_ireti zd18_13 zs18 k
theorem b18_14 {x : zXs} {F : zF} (hF : zSh F) {d : Nat} {V : Nat → Nat → Int32} {T : Nat → Nat → Int64} {Q : Option Value → zG → Prop} {o0 : Option Value} {l1 : Nat} {nl1 : Nat} {l2 : Int32} {l3 : Int32} {o4 : Option Value} (hl1 : zsh F l1 = 100 ∧ zln F l1 = nl1) (qnl1 : nl1 < 2 ^ 31) {i1 : Nat} (e1 : l2 = nI i1) (h1 : i1 < nl1) {i2 : Nat} (e2 : l2 = nI i2) (h2 : i2 < nl1) (k : Q (some (.int (V l1 i1))) (zu V l1 i2 l3, T)) : E x F d 18 14 [o0, some (.ref l1), some (.int l2), some (.int l3), o4] [] (V, T) Q := by
  refine e_aload_n zd18_14 rfl rfl ?_
  refine e_iload_n zd18_15 rfl ?_
  refine e_iald zd18_16 (i := i1) (hl1) e1 h1 qnl1 ?_
  refine e_istore zd18_17 (by decide +kernel) (Nat.le_of_ble_eq_true rfl) ?_
  refine e_aload_n zd18_19 rfl rfl ?_
  refine e_iload_n zd18_20 rfl ?_
  refine e_iload_n zd18_21 rfl ?_
  refine e_iast zd18_22 (i := i2) (hl1) e2 h2 qnl1 ?_
  refine e_iload zd18_23 rfl ?_
  exact e_ireti zd18_25 zs18 k
theorem zd19_0 : zop 19 0 = some (.iload_n 1, 1) := by decide +kernel
theorem zd19_1 : zop 19 1 = some (.iconst 0, 1) := by decide +kernel
theorem zd19_2 : zop 19 2 = some (.aload_n 0, 1) := by decide +kernel
theorem zd19_3 : zop 19 3 = some (.getfield 33, 3) := by decide +kernel
theorem zd19_6 : zop 19 6 = some (.iconst 1, 1) := by decide +kernel
theorem zd19_7 : zop 19 7 = some (.isub, 1) := by decide +kernel
theorem zd19_8 : zop 19 8 = some (.invokestatic 43, 3) := by decide +kernel
theorem zd19_11 : zop 19 11 = some (.ireturn, 1) := by decide +kernel
theorem b19_0 {x : zXs} {F : zF} (hF : zSh F) {d : Nat} {V : Nat → Nat → Int32} {T : Nat → Nat → Int64} {Q : Option Value → zG → Prop} {l0 : Nat} {l1 : Int32} (hl0 : zSt l0)  (k : E x F d 7 0 [some (.int l1), some (.int (Int32.ofInt 0)), some (.int ((V l0 5) - (Int32.ofInt 1)))] [] (V, T) (fun r G' => E x F (d + 1) 19 11 [some (.ref l0), some (.int l1)] (r.toList ++ []) G' Q)) : E x F (d + 1) 19 0 [some (.ref l0), some (.int l1)] [] (V, T) Q := by
  refine e_iload_n zd19_0 rfl ?_
  refine e_iconst zd19_1 ?_
  refine e_aload_n zd19_2 rfl rfl ?_
  refine e_getI zd19_3 (own := 4) (ci := 4) (kf := 5) (w := 127) (by decide +kernel) (by decide +kernel) (zSt_s hF hl0).1 (by decide +kernel) rfl ?_
  refine e_iconst zd19_6 ?_
  refine e_isub zd19_7 ?_
  exact e_callS zd19_8 (own := 4) (nest := true) (w := 333) (by decide +kernel) (by decide +kernel) zs7 (as := [.int l1, .int (Int32.ofInt 0), .int ((V l0 5) - (Int32.ofInt 1))]) (rest := []) rfl rfl (Nat.le_of_ble_eq_true rfl) rfl rfl rfl (by omega) k
theorem b19_11 {x : zXs} {F : zF} (hF : zSh F) {d : Nat} {V : Nat → Nat → Int32} {T : Nat → Nat → Int64} {Q : Option Value → zG → Prop} {o0 : Option Value} {o1 : Option Value} {s0 : Int32}  (b1 : narrow .boolean (.int s0) = .int s0) (k : Q (some (.int s0)) (V, T)) : E x F d 19 11 [o0, o1] [.int s0] (V, T) Q := by
  exact e_iretz zd19_11 zs19 b1 k
theorem zd20_0 : zop 20 0 = some (.aload_n 0, 1) := by decide +kernel
theorem zd20_1 : zop 20 1 = some (.getfield 10, 3) := by decide +kernel
theorem zd20_4 : zop 20 4 = some (.iload_n 1, 1) := by decide +kernel
theorem zd20_5 : zop 20 5 = some (.iload_n 2, 1) := by decide +kernel
theorem zd20_6 : zop 20 6 = some (.invokevirtual 94, 3) := by decide +kernel
theorem zd20_9 : zop 20 9 = some (.ireturn, 1) := by decide +kernel
theorem b20_0 {x : zXs} {F : zF} (hF : zSh F) {d : Nat} {V : Nat → Nat → Int32} {T : Nat → Nat → Int64} {Q : Option Value → zG → Prop} {l1 : Int32} {l2 : Int32}   (k : E x F d 21 0 [some (.ref 1), some (.int l1), some (.int l2), none] [] (V, T) (fun r G' => E x F (d + 1) 20 9 [some (.ref 0), some (.int l1), some (.int l2)] (r.toList ++ []) G' Q)) : E x F (d + 1) 20 0 [some (.ref 0), some (.int l1), some (.int l2)] [] (V, T) Q := by
  refine e_aload_n zd20_0 rfl rfl ?_
  refine e_getO zd20_1 (own := 7) (ci := 7) (kf := 0) (w := 297) (by decide +kernel) (by decide +kernel) (zsh_at hF rfl).1 (by decide +kernel) rfl (zrf_at hF (i := 0) rfl) ?_
  refine e_iload_n zd20_4 rfl ?_
  refine e_iload_n zd20_5 rfl ?_
  exact e_callV zd20_6 (own := 7) (nest := false) (w := 369) (by decide +kernel) (by decide +kernel) zs21 (as := [.int l1, .int l2]) (rest := []) rfl rfl (zsh_at hF rfl).1 (by omega) (Nat.le_of_ble_eq_true rfl) rfl rfl rfl (by omega) k
theorem b20_9 {x : zXs} {F : zF} (hF : zSh F) {d : Nat} {V : Nat → Nat → Int32} {T : Nat → Nat → Int64} {Q : Option Value → zG → Prop} {o0 : Option Value} {o1 : Option Value} {o2 : Option Value} {s0 : Int32}   (k : Q (some (.int s0)) (V, T)) : E x F d 20 9 [o0, o1, o2] [.int s0] (V, T) Q := by
  exact e_ireti zd20_9 zs20 k
theorem zd21_0 : zop 21 0 = some (.iload_n 1, 1) := by decide +kernel
theorem zd21_1 : zop 21 1 = some (.iconst 0, 1) := by decide +kernel
theorem zd21_2 : zop 21 2 = some (.iconst 5, 1) := by decide +kernel
theorem zd21_3 : zop 21 3 = some (.invokestatic 43, 3) := by decide +kernel
theorem zd21_6 : zop 21 6 = some (.ifCond .eq 13, 3) := by decide +kernel
theorem zd21_9 : zop 21 9 = some (.iload_n 2, 1) := by decide +kernel
theorem zd21_10 : zop 21 10 = some (.iconst 0, 1) := by decide +kernel
theorem zd21_11 : zop 21 11 = some (.bipush 9, 2) := by decide +kernel
theorem zd21_13 : zop 21 13 = some (.invokestatic 43, 3) := by decide +kernel
theorem zd21_16 : zop 21 16 = some (.ifCond .ne 6, 3) := by decide +kernel
theorem zd21_19 : zop 21 19 = some (.bipush (-2), 2) := by decide +kernel
theorem zd21_21 : zop 21 21 = some (.ireturn, 1) := by decide +kernel
theorem zd21_22 : zop 21 22 = some (.aload_n 0, 1) := by decide +kernel
theorem zd21_23 : zop 21 23 = some (.getfield 33, 3) := by decide +kernel
theorem zd21_26 : zop 21 26 = some (.iconst 5, 1) := by decide +kernel
theorem zd21_27 : zop 21 27 = some (.if_icmp .lt 6, 3) := by decide +kernel
theorem zd21_30 : zop 21 30 = some (.bipush (-4), 2) := by decide +kernel
theorem zd21_32 : zop 21 32 = some (.ireturn, 1) := by decide +kernel
theorem zd21_33 : zop 21 33 = some (.aload_n 0, 1) := by decide +kernel
theorem zd21_34 : zop 21 34 = some (.getfield 33, 3) := by decide +kernel
theorem zd21_37 : zop 21 37 = some (.istore_n 3, 1) := by decide +kernel
theorem zd21_38 : zop 21 38 = some (.aload_n 0, 1) := by decide +kernel
theorem zd21_39 : zop 21 39 = some (.getfield 18, 3) := by decide +kernel
theorem zd21_42 : zop 21 42 = some (.iload_n 3, 1) := by decide +kernel
theorem zd21_43 : zop 21 43 = some (.iload_n 1, 1) := by decide +kernel
theorem zd21_44 : zop 21 44 = some (.iastore, 1) := by decide +kernel
theorem zd21_45 : zop 21 45 = some (.aload_n 0, 1) := by decide +kernel
theorem zd21_46 : zop 21 46 = some (.getfield 21, 3) := by decide +kernel
theorem zd21_49 : zop 21 49 = some (.iload_n 3, 1) := by decide +kernel
theorem zd21_50 : zop 21 50 = some (.iload_n 2, 1) := by decide +kernel
theorem zd21_51 : zop 21 51 = some (.iastore, 1) := by decide +kernel
theorem zd21_52 : zop 21 52 = some (.aload_n 0, 1) := by decide +kernel
theorem zd21_53 : zop 21 53 = some (.getfield 24, 3) := by decide +kernel
theorem zd21_56 : zop 21 56 = some (.iload_n 3, 1) := by decide +kernel
theorem zd21_57 : zop 21 57 = some (.iconst 0, 1) := by decide +kernel
theorem zd21_58 : zop 21 58 = some (.iastore, 1) := by decide +kernel
theorem zd21_59 : zop 21 59 = some (.aload_n 0, 1) := by decide +kernel
theorem zd21_60 : zop 21 60 = some (.dup, 1) := by decide +kernel
theorem zd21_61 : zop 21 61 = some (.getfield 33, 3) := by decide +kernel
theorem zd21_64 : zop 21 64 = some (.iconst 1, 1) := by decide +kernel
theorem zd21_65 : zop 21 65 = some (.iadd, 1) := by decide +kernel
theorem zd21_66 : zop 21 66 = some (.putfield 33, 3) := by decide +kernel
theorem zd21_69 : zop 21 69 = some (.iload_n 3, 1) := by decide +kernel
theorem zd21_70 : zop 21 70 = some (.ireturn, 1) := by decide +kernel
theorem b21_0 {x : zXs} {F : zF} (hF : zSh F) {d : Nat} {V : Nat → Nat → Int32} {T : Nat → Nat → Int64} {Q : Option Value → zG → Prop} {o0 : Option Value} {l1 : Int32} {o2 : Option Value} {o3 : Option Value}   (k : E x F d 7 0 [some (.int l1), some (.int (Int32.ofInt 0)), some (.int (Int32.ofInt 5))] [] (V, T) (fun r G' => E x F (d + 1) 21 6 [o0, some (.int l1), o2, o3] (r.toList ++ []) G' Q)) : E x F (d + 1) 21 0 [o0, some (.int l1), o2, o3] [] (V, T) Q := by
  refine e_iload_n zd21_0 rfl ?_
  refine e_iconst zd21_1 ?_
  refine e_iconst zd21_2 ?_
  exact e_callS zd21_3 (own := 4) (nest := true) (w := 333) (by decide +kernel) (by decide +kernel) zs7 (as := [.int l1, .int (Int32.ofInt 0), .int (Int32.ofInt 5)]) (rest := []) rfl rfl (Nat.le_of_ble_eq_true rfl) rfl rfl rfl (by omega) k
theorem b21_6 {x : zXs} {F : zF} (hF : zSh F) {d : Nat} {V : Nat → Nat → Int32} {T : Nat → Nat → Int64} {Q : Option Value → zG → Prop} {o0 : Option Value} {o1 : Option Value} {o2 : Option Value} {o3 : Option Value} {s0 : Int32}   (kt : s0 = 0 → E x F d 21 19 [o0, o1, o2, o3] [] (V, T) Q) (kf : ¬ (s0 = 0) → E x F d 21 9 [o0, o1, o2, o3] [] (V, T) Q) : E x F d 21 6 [o0, o1, o2, o3] [.int s0] (V, T) Q := by
  exact e_if_eq zd21_6 (tg := 19) rfl kt kf
theorem b21_9 {x : zXs} {F : zF} (hF : zSh F) {d : Nat} {V : Nat → Nat → Int32} {T : Nat → Nat → Int64} {Q : Option Value → zG → Prop} {o0 : Option Value} {o1 : Option Value} {l2 : Int32} {o3 : Option Value}   (k : E x F d 7 0 [some (.int l2), some (.int (Int32.ofInt 0)), some (.int (Int32.ofInt 9))] [] (V, T) (fun r G' => E x F (d + 1) 21 16 [o0, o1, some (.int l2), o3] (r.toList ++ []) G' Q)) : E x F (d + 1) 21 9 [o0, o1, some (.int l2), o3] [] (V, T) Q := by
  refine e_iload_n zd21_9 rfl ?_
  refine e_iconst zd21_10 ?_
  refine e_bipush zd21_11 (v := Int32.ofInt 9) (by decide +kernel) ?_
  exact e_callS zd21_13 (own := 4) (nest := true) (w := 333) (by decide +kernel) (by decide +kernel) zs7 (as := [.int l2, .int (Int32.ofInt 0), .int (Int32.ofInt 9)]) (rest := []) rfl rfl (Nat.le_of_ble_eq_true rfl) rfl rfl rfl (by omega) k
theorem b21_16 {x : zXs} {F : zF} (hF : zSh F) {d : Nat} {V : Nat → Nat → Int32} {T : Nat → Nat → Int64} {Q : Option Value → zG → Prop} {o0 : Option Value} {o1 : Option Value} {o2 : Option Value} {o3 : Option Value} {s0 : Int32}   (kt : ¬ s0 = 0 → E x F d 21 22 [o0, o1, o2, o3] [] (V, T) Q) (kf : ¬ (¬ s0 = 0) → E x F d 21 19 [o0, o1, o2, o3] [] (V, T) Q) : E x F d 21 16 [o0, o1, o2, o3] [.int s0] (V, T) Q := by
  exact e_if_ne zd21_16 (tg := 22) rfl kt kf
theorem b21_19 {x : zXs} {F : zF} (hF : zSh F) {d : Nat} {V : Nat → Nat → Int32} {T : Nat → Nat → Int64} {Q : Option Value → zG → Prop} {o0 : Option Value} {o1 : Option Value} {o2 : Option Value} {o3 : Option Value}   (k : Q (some (.int (Int32.ofInt (-2)))) (V, T)) : E x F d 21 19 [o0, o1, o2, o3] [] (V, T) Q := by
  refine e_bipush zd21_19 (v := Int32.ofInt (-2)) (by decide +kernel) ?_
  exact e_ireti zd21_21 zs21 k
theorem b21_22 {x : zXs} {F : zF} (hF : zSh F) {d : Nat} {V : Nat → Nat → Int32} {T : Nat → Nat → Int64} {Q : Option Value → zG → Prop} {l0 : Nat} {o1 : Option Value} {o2 : Option Value} {o3 : Option Value} (hl0 : zSt l0)  (kt : (V l0 5) < (Int32.ofInt 5) → E x F d 21 33 [some (.ref l0), o1, o2, o3] [] (V, T) Q) (kf : ¬ ((V l0 5) < (Int32.ofInt 5)) → E x F d 21 30 [some (.ref l0), o1, o2, o3] [] (V, T) Q) : E x F d 21 22 [some (.ref l0), o1, o2, o3] [] (V, T) Q := by
  refine e_aload_n zd21_22 rfl rfl ?_
  refine e_getI zd21_23 (own := 4) (ci := 4) (kf := 5) (w := 127) (by decide +kernel) (by decide +kernel) (zSt_s hF hl0).1 (by decide +kernel) rfl ?_
  refine e_iconst zd21_26 ?_
  exact e_icmp_lt zd21_27 (tg := 33) rfl kt kf
theorem b21_30 {x : zXs} {F : zF} (hF : zSh F) {d : Nat} {V : Nat → Nat → Int32} {T : Nat → Nat → Int64} {Q : Option Value → zG → Prop} {o0 : Option Value} {o1 : Option Value} {o2 : Option Value} {o3 : Option Value}   (k : Q (some (.int (Int32.ofInt (-4)))) (V, T)) : E x F d 21 30 [o0, o1, o2, o3] [] (V, T) Q := by
  refine e_bipush zd21_30 (v := Int32.ofInt (-4)) (by decide +kernel) ?_
  exact e_ireti zd21_32 zs21 k
theorem b21_33 {x : zXs} {F : zF} (hF : zSh F) {d : Nat} {V : Nat → Nat → Int32} {T : Nat → Nat → Int64} {Q : Option Value → zG → Prop} {l0 : Nat} {l1 : Int32} {l2 : Int32} {o3 : Option Value} (hl0 : zSt l0) {i1 : Nat} (e1 : V l0 5 = nI i1) (h1 : i1 < 5) {i2 : Nat} (e2 : V l0 5 = nI i2) (h2 : i2 < 5) {i3 : Nat} (e3 : V l0 5 = nI i3) (h3 : i3 < 5) (k : Q (some (.int (V l0 5))) (zu (zu (zu (zu V (l0 + 3) i1 l1) (l0 + 4) i2 l2) (l0 + 5) i3 (Int32.ofInt 0)) l0 5 (((zu (zu (zu V (l0 + 3) i1 l1) (l0 + 4) i2 l2) (l0 + 5) i3 (Int32.ofInt 0)) l0 5) + (Int32.ofInt 1)), T)) : E x F d 21 33 [some (.ref l0), some (.int l1), some (.int l2), o3] [] (V, T) Q := by
  refine e_aload_n zd21_33 rfl rfl ?_
  refine e_getI zd21_34 (own := 4) (ci := 4) (kf := 5) (w := 127) (by decide +kernel) (by decide +kernel) (zSt_s hF hl0).1 (by decide +kernel) rfl ?_
  refine e_istore_n zd21_37 (by decide +kernel) (Nat.le_of_ble_eq_true rfl) ?_
  refine e_aload_n zd21_38 rfl rfl ?_
  refine e_getA zd21_39 (own := 4) (ci := 4) (kf := 2) (w := 116) (by decide +kernel) (by decide +kernel) (zSt_s hF hl0).1 (by decide +kernel) rfl (zSt_f2 hF hl0) ?_
  refine e_iload_n zd21_42 rfl ?_
  refine e_iload_n zd21_43 rfl ?_
  refine e_iast zd21_44 (i := i1) (zSt_a2 hF hl0) e1 h1 (by omega) ?_
  refine e_aload_n zd21_45 rfl rfl ?_
  refine e_getA zd21_46 (own := 4) (ci := 4) (kf := 3) (w := 119) (by decide +kernel) (by decide +kernel) (zSt_s hF hl0).1 (by decide +kernel) rfl (zSt_f3 hF hl0) ?_
  refine e_iload_n zd21_49 rfl ?_
  refine e_iload_n zd21_50 rfl ?_
  refine e_iast zd21_51 (i := i2) (zSt_a3 hF hl0) e2 h2 (by omega) ?_
  refine e_aload_n zd21_52 rfl rfl ?_
  refine e_getA zd21_53 (own := 4) (ci := 4) (kf := 4) (w := 123) (by decide +kernel) (by decide +kernel) (zSt_s hF hl0).1 (by decide +kernel) rfl (zSt_f4 hF hl0) ?_
  refine e_iload_n zd21_56 rfl ?_
  refine e_iconst zd21_57 ?_
  refine e_iast zd21_58 (i := i3) (zSt_a4 hF hl0) e3 h3 (by omega) ?_
  refine e_aload_n zd21_59 rfl rfl ?_
  refine e_dup zd21_60 rfl ?_
  refine e_getI zd21_61 (own := 4) (ci := 4) (kf := 5) (w := 127) (by decide +kernel) (by decide +kernel) (zSt_s hF hl0).1 (by decide +kernel) rfl ?_
  refine e_iconst zd21_64 ?_
  refine e_iadd zd21_65 ?_
  refine e_putI zd21_66 (own := 4) (ci := 4) (kf := 5) (w := 127) (by decide +kernel) (by decide +kernel) (zSt_s hF hl0).1 (by decide +kernel) rfl ?_
  refine e_iload_n zd21_69 rfl ?_
  exact e_ireti zd21_70 zs21 k
theorem zd22_0 : zop 22 0 = some (.iload_n 2, 1) := by decide +kernel
theorem zd22_1 : zop 22 1 = some (.ifCond .ne 11, 3) := by decide +kernel
theorem zd22_4 : zop 22 4 = some (.aload_n 0, 1) := by decide +kernel
theorem zd22_5 : zop 22 5 = some (.getfield 10, 3) := by decide +kernel
theorem zd22_8 : zop 22 8 = some (.getfield 87, 3) := by decide +kernel
theorem zd22_11 : zop 22 11 = some (.ireturn, 1) := by decide +kernel
theorem zd22_12 : zop 22 12 = some (.iload_n 2, 1) := by decide +kernel
theorem zd22_13 : zop 22 13 = some (.iconst 1, 1) := by decide +kernel
theorem zd22_14 : zop 22 14 = some (.iconst 4, 1) := by decide +kernel
theorem zd22_15 : zop 22 15 = some (.invokestatic 59, 3) := by decide +kernel
theorem zd22_18 : zop 22 18 = some (.ifCond .eq 26, 3) := by decide +kernel
theorem zd22_21 : zop 22 21 = some (.aload_n 0, 1) := by decide +kernel
theorem zd22_22 : zop 22 22 = some (.getfield 10, 3) := by decide +kernel
theorem zd22_25 : zop 22 25 = some (.iload_n 1, 1) := by decide +kernel
theorem zd22_26 : zop 22 26 = some (.invokevirtual 91, 3) := by decide +kernel
theorem zd22_29 : zop 22 29 = some (.ifCond .eq 12, 3) := by decide +kernel
theorem zd22_32 : zop 22 32 = some (.aload_n 0, 1) := by decide +kernel
theorem zd22_33 : zop 22 33 = some (.iload_n 1, 1) := by decide +kernel
theorem zd22_34 : zop 22 34 = some (.iload_n 2, 1) := by decide +kernel
theorem zd22_35 : zop 22 35 = some (.invokevirtual 98, 3) := by decide +kernel
theorem zd22_38 : zop 22 38 = some (.goto 5, 3) := by decide +kernel
theorem zd22_41 : zop 22 41 = some (.bipush (-2), 2) := by decide +kernel
theorem zd22_43 : zop 22 43 = some (.ireturn, 1) := by decide +kernel
theorem zd22_44 : zop 22 44 = some (.iload_n 2, 1) := by decide +kernel
theorem zd22_45 : zop 22 45 = some (.iconst 5, 1) := by decide +kernel
theorem zd22_46 : zop 22 46 = some (.bipush 10, 2) := by decide +kernel
theorem zd22_48 : zop 22 48 = some (.invokestatic 59, 3) := by decide +kernel
theorem zd22_51 : zop 22 51 = some (.ifCond .eq 26, 3) := by decide +kernel
theorem zd22_54 : zop 22 54 = some (.aload_n 0, 1) := by decide +kernel
theorem zd22_55 : zop 22 55 = some (.getfield 10, 3) := by decide +kernel
theorem zd22_58 : zop 22 58 = some (.iload_n 1, 1) := by decide +kernel
theorem zd22_59 : zop 22 59 = some (.invokevirtual 55, 3) := by decide +kernel
theorem zd22_62 : zop 22 62 = some (.ifCond .eq 12, 3) := by decide +kernel
theorem zd22_65 : zop 22 65 = some (.aload_n 0, 1) := by decide +kernel
theorem zd22_66 : zop 22 66 = some (.iload_n 1, 1) := by decide +kernel
theorem zd22_67 : zop 22 67 = some (.iload_n 2, 1) := by decide +kernel
theorem zd22_68 : zop 22 68 = some (.invokevirtual 101, 3) := by decide +kernel
theorem zd22_71 : zop 22 71 = some (.goto 5, 3) := by decide +kernel
theorem zd22_74 : zop 22 74 = some (.bipush (-2), 2) := by decide +kernel
theorem zd22_76 : zop 22 76 = some (.ireturn, 1) := by decide +kernel
theorem zd22_77 : zop 22 77 = some (.bipush (-2), 2) := by decide +kernel
theorem zd22_79 : zop 22 79 = some (.ireturn, 1) := by decide +kernel
theorem b22_0 {x : zXs} {F : zF} (hF : zSh F) {d : Nat} {V : Nat → Nat → Int32} {T : Nat → Nat → Int64} {Q : Option Value → zG → Prop} {o0 : Option Value} {o1 : Option Value} {l2 : Int32}   (kt : ¬ l2 = 0 → E x F d 22 12 [o0, o1, some (.int l2)] [] (V, T) Q) (kf : ¬ (¬ l2 = 0) → E x F d 22 4 [o0, o1, some (.int l2)] [] (V, T) Q) : E x F d 22 0 [o0, o1, some (.int l2)] [] (V, T) Q := by
  refine e_iload_n zd22_0 rfl ?_
  exact e_if_ne zd22_1 (tg := 12) rfl kt kf
theorem b22_4 {x : zXs} {F : zF} (hF : zSh F) {d : Nat} {V : Nat → Nat → Int32} {T : Nat → Nat → Int64} {Q : Option Value → zG → Prop} {o1 : Option Value} {o2 : Option Value}   (k : Q (some (.int (V 1 6))) (V, T)) : E x F d 22 4 [some (.ref 0), o1, o2] [] (V, T) Q := by
  refine e_aload_n zd22_4 rfl rfl ?_
  refine e_getO zd22_5 (own := 7) (ci := 7) (kf := 0) (w := 297) (by decide +kernel) (by decide +kernel) (zsh_at hF rfl).1 (by decide +kernel) rfl (zrf_at hF (i := 0) rfl) ?_
  refine e_getI zd22_8 (own := 7) (ci := 4) (kf := 6) (w := 131) (by decide +kernel) (by decide +kernel) (zsh_at hF rfl).1 (by decide +kernel) rfl ?_
  exact e_ireti zd22_11 zs22 k
theorem b22_12 {x : zXs} {F : zF} (hF : zSh F) {d : Nat} {V : Nat → Nat → Int32} {T : Nat → Nat → Int64} {Q : Option Value → zG → Prop} {o0 : Option Value} {o1 : Option Value} {l2 : Int32}   (k : E x F d 7 0 [some (.int l2), some (.int (Int32.ofInt 1)), some (.int (Int32.ofInt 4))] [] (V, T) (fun r G' => E x F (d + 1) 22 18 [o0, o1, some (.int l2)] (r.toList ++ []) G' Q)) : E x F (d + 1) 22 12 [o0, o1, some (.int l2)] [] (V, T) Q := by
  refine e_iload_n zd22_12 rfl ?_
  refine e_iconst zd22_13 ?_
  refine e_iconst zd22_14 ?_
  exact e_callS zd22_15 (own := 7) (nest := false) (w := 334) (by decide +kernel) (by decide +kernel) zs7 (as := [.int l2, .int (Int32.ofInt 1), .int (Int32.ofInt 4)]) (rest := []) rfl rfl (Nat.le_of_ble_eq_true rfl) rfl rfl rfl (by omega) k
theorem b22_18 {x : zXs} {F : zF} (hF : zSh F) {d : Nat} {V : Nat → Nat → Int32} {T : Nat → Nat → Int64} {Q : Option Value → zG → Prop} {o0 : Option Value} {o1 : Option Value} {o2 : Option Value} {s0 : Int32}   (kt : s0 = 0 → E x F d 22 44 [o0, o1, o2] [] (V, T) Q) (kf : ¬ (s0 = 0) → E x F d 22 21 [o0, o1, o2] [] (V, T) Q) : E x F d 22 18 [o0, o1, o2] [.int s0] (V, T) Q := by
  exact e_if_eq zd22_18 (tg := 44) rfl kt kf
theorem b22_21 {x : zXs} {F : zF} (hF : zSh F) {d : Nat} {V : Nat → Nat → Int32} {T : Nat → Nat → Int64} {Q : Option Value → zG → Prop} {l1 : Int32} {o2 : Option Value}   (k : E x F d 19 0 [some (.ref 1), some (.int l1)] [] (V, T) (fun r G' => E x F (d + 1) 22 29 [some (.ref 0), some (.int l1), o2] (r.toList ++ []) G' Q)) : E x F (d + 1) 22 21 [some (.ref 0), some (.int l1), o2] [] (V, T) Q := by
  refine e_aload_n zd22_21 rfl rfl ?_
  refine e_getO zd22_22 (own := 7) (ci := 7) (kf := 0) (w := 297) (by decide +kernel) (by decide +kernel) (zsh_at hF rfl).1 (by decide +kernel) rfl (zrf_at hF (i := 0) rfl) ?_
  refine e_iload_n zd22_25 rfl ?_
  exact e_callV zd22_26 (own := 7) (nest := false) (w := 361) (by decide +kernel) (by decide +kernel) zs19 (as := [.int l1]) (rest := []) rfl rfl (zsh_at hF rfl).1 (by omega) (Nat.le_of_ble_eq_true rfl) rfl rfl rfl (by omega) k
theorem b22_29 {x : zXs} {F : zF} (hF : zSh F) {d : Nat} {V : Nat → Nat → Int32} {T : Nat → Nat → Int64} {Q : Option Value → zG → Prop} {o0 : Option Value} {o1 : Option Value} {o2 : Option Value} {s0 : Int32}   (kt : s0 = 0 → E x F d 22 41 [o0, o1, o2] [] (V, T) Q) (kf : ¬ (s0 = 0) → E x F d 22 32 [o0, o1, o2] [] (V, T) Q) : E x F d 22 29 [o0, o1, o2] [.int s0] (V, T) Q := by
  exact e_if_eq zd22_29 (tg := 41) rfl kt kf
theorem b22_32 {x : zXs} {F : zF} (hF : zSh F) {d : Nat} {V : Nat → Nat → Int32} {T : Nat → Nat → Int64} {Q : Option Value → zG → Prop} {l1 : Int32} {l2 : Int32}   (k : E x F d 23 0 [some (.ref 0), some (.int l1), some (.int l2)] [] (V, T) (fun r G' => E x F (d + 1) 22 38 [some (.ref 0), some (.int l1), some (.int l2)] (r.toList ++ []) G' Q)) : E x F (d + 1) 22 32 [some (.ref 0), some (.int l1), some (.int l2)] [] (V, T) Q := by
  refine e_aload_n zd22_32 rfl rfl ?_
  refine e_iload_n zd22_33 rfl ?_
  refine e_iload_n zd22_34 rfl ?_
  exact e_callV zd22_35 (own := 7) (nest := false) (w := 377) (by decide +kernel) (by decide +kernel) zs23 (as := [.int l1, .int l2]) (rest := []) rfl rfl (zsh_at hF rfl).1 (by omega) (Nat.le_of_ble_eq_true rfl) rfl rfl rfl (by omega) k
theorem b22_38 {x : zXs} {F : zF} (hF : zSh F) {d : Nat} {V : Nat → Nat → Int32} {T : Nat → Nat → Int64} {Q : Option Value → zG → Prop} {o0 : Option Value} {o1 : Option Value} {o2 : Option Value} {s0 : Int32}   (k : E x F d 22 43 [o0, o1, o2] [.int s0] (V, T) Q) : E x F d 22 38 [o0, o1, o2] [.int s0] (V, T) Q := by
  exact e_goto zd22_38 (tg := 43) rfl k
theorem b22_41 {x : zXs} {F : zF} (hF : zSh F) {d : Nat} {V : Nat → Nat → Int32} {T : Nat → Nat → Int64} {Q : Option Value → zG → Prop} {o0 : Option Value} {o1 : Option Value} {o2 : Option Value}   (k : E x F d 22 43 [o0, o1, o2] [.int (Int32.ofInt (-2))] (V, T) Q) : E x F d 22 41 [o0, o1, o2] [] (V, T) Q := by
  refine e_bipush zd22_41 (v := Int32.ofInt (-2)) (by decide +kernel) ?_
  exact k
theorem b22_43 {x : zXs} {F : zF} (hF : zSh F) {d : Nat} {V : Nat → Nat → Int32} {T : Nat → Nat → Int64} {Q : Option Value → zG → Prop} {o0 : Option Value} {o1 : Option Value} {o2 : Option Value} {s0 : Int32}   (k : Q (some (.int s0)) (V, T)) : E x F d 22 43 [o0, o1, o2] [.int s0] (V, T) Q := by
  exact e_ireti zd22_43 zs22 k
theorem b22_44 {x : zXs} {F : zF} (hF : zSh F) {d : Nat} {V : Nat → Nat → Int32} {T : Nat → Nat → Int64} {Q : Option Value → zG → Prop} {o0 : Option Value} {o1 : Option Value} {l2 : Int32}   (k : E x F d 7 0 [some (.int l2), some (.int (Int32.ofInt 5)), some (.int (Int32.ofInt 10))] [] (V, T) (fun r G' => E x F (d + 1) 22 51 [o0, o1, some (.int l2)] (r.toList ++ []) G' Q)) : E x F (d + 1) 22 44 [o0, o1, some (.int l2)] [] (V, T) Q := by
  refine e_iload_n zd22_44 rfl ?_
  refine e_iconst zd22_45 ?_
  refine e_bipush zd22_46 (v := Int32.ofInt 10) (by decide +kernel) ?_
  exact e_callS zd22_48 (own := 7) (nest := false) (w := 334) (by decide +kernel) (by decide +kernel) zs7 (as := [.int l2, .int (Int32.ofInt 5), .int (Int32.ofInt 10)]) (rest := []) rfl rfl (Nat.le_of_ble_eq_true rfl) rfl rfl rfl (by omega) k
theorem b22_51 {x : zXs} {F : zF} (hF : zSh F) {d : Nat} {V : Nat → Nat → Int32} {T : Nat → Nat → Int64} {Q : Option Value → zG → Prop} {o0 : Option Value} {o1 : Option Value} {o2 : Option Value} {s0 : Int32}   (kt : s0 = 0 → E x F d 22 77 [o0, o1, o2] [] (V, T) Q) (kf : ¬ (s0 = 0) → E x F d 22 54 [o0, o1, o2] [] (V, T) Q) : E x F d 22 51 [o0, o1, o2] [.int s0] (V, T) Q := by
  exact e_if_eq zd22_51 (tg := 77) rfl kt kf
theorem b22_54 {x : zXs} {F : zF} (hF : zSh F) {d : Nat} {V : Nat → Nat → Int32} {T : Nat → Nat → Int64} {Q : Option Value → zG → Prop} {l1 : Int32} {o2 : Option Value}   (k : E x F d 12 0 [some (.ref 1), some (.int l1)] [] (V, T) (fun r G' => E x F (d + 1) 22 62 [some (.ref 0), some (.int l1), o2] (r.toList ++ []) G' Q)) : E x F (d + 1) 22 54 [some (.ref 0), some (.int l1), o2] [] (V, T) Q := by
  refine e_aload_n zd22_54 rfl rfl ?_
  refine e_getO zd22_55 (own := 7) (ci := 7) (kf := 0) (w := 297) (by decide +kernel) (by decide +kernel) (zsh_at hF rfl).1 (by decide +kernel) rfl (zrf_at hF (i := 0) rfl) ?_
  refine e_iload_n zd22_58 rfl ?_
  exact e_callV zd22_59 (own := 7) (nest := false) (w := 329) (by decide +kernel) (by decide +kernel) zs12 (as := [.int l1]) (rest := []) rfl rfl (zsh_at hF rfl).1 (by omega) (Nat.le_of_ble_eq_true rfl) rfl rfl rfl (by omega) k
theorem b22_62 {x : zXs} {F : zF} (hF : zSh F) {d : Nat} {V : Nat → Nat → Int32} {T : Nat → Nat → Int64} {Q : Option Value → zG → Prop} {o0 : Option Value} {o1 : Option Value} {o2 : Option Value} {s0 : Int32}   (kt : s0 = 0 → E x F d 22 74 [o0, o1, o2] [] (V, T) Q) (kf : ¬ (s0 = 0) → E x F d 22 65 [o0, o1, o2] [] (V, T) Q) : E x F d 22 62 [o0, o1, o2] [.int s0] (V, T) Q := by
  exact e_if_eq zd22_62 (tg := 74) rfl kt kf
theorem b22_65 {x : zXs} {F : zF} (hF : zSh F) {d : Nat} {V : Nat → Nat → Int32} {T : Nat → Nat → Int64} {Q : Option Value → zG → Prop} {l1 : Int32} {l2 : Int32}   (k : E x F d 31 0 [some (.ref 0), some (.int l1), some (.int l2)] [] (V, T) (fun r G' => E x F (d + 1) 22 71 [some (.ref 0), some (.int l1), some (.int l2)] (r.toList ++ []) G' Q)) : E x F (d + 1) 22 65 [some (.ref 0), some (.int l1), some (.int l2)] [] (V, T) Q := by
  refine e_aload_n zd22_65 rfl rfl ?_
  refine e_iload_n zd22_66 rfl ?_
  refine e_iload_n zd22_67 rfl ?_
  exact e_callV zd22_68 (own := 7) (nest := false) (w := 407) (by decide +kernel) (by decide +kernel) zs31 (as := [.int l1, .int l2]) (rest := []) rfl rfl (zsh_at hF rfl).1 (by omega) (Nat.le_of_ble_eq_true rfl) rfl rfl rfl (by omega) k
theorem b22_71 {x : zXs} {F : zF} (hF : zSh F) {d : Nat} {V : Nat → Nat → Int32} {T : Nat → Nat → Int64} {Q : Option Value → zG → Prop} {o0 : Option Value} {o1 : Option Value} {o2 : Option Value} {s0 : Int32}   (k : E x F d 22 76 [o0, o1, o2] [.int s0] (V, T) Q) : E x F d 22 71 [o0, o1, o2] [.int s0] (V, T) Q := by
  exact e_goto zd22_71 (tg := 76) rfl k
theorem b22_74 {x : zXs} {F : zF} (hF : zSh F) {d : Nat} {V : Nat → Nat → Int32} {T : Nat → Nat → Int64} {Q : Option Value → zG → Prop} {o0 : Option Value} {o1 : Option Value} {o2 : Option Value}   (k : E x F d 22 76 [o0, o1, o2] [.int (Int32.ofInt (-2))] (V, T) Q) : E x F d 22 74 [o0, o1, o2] [] (V, T) Q := by
  refine e_bipush zd22_74 (v := Int32.ofInt (-2)) (by decide +kernel) ?_
  exact k
theorem b22_76 {x : zXs} {F : zF} (hF : zSh F) {d : Nat} {V : Nat → Nat → Int32} {T : Nat → Nat → Int64} {Q : Option Value → zG → Prop} {o0 : Option Value} {o1 : Option Value} {o2 : Option Value} {s0 : Int32}   (k : Q (some (.int s0)) (V, T)) : E x F d 22 76 [o0, o1, o2] [.int s0] (V, T) Q := by
  exact e_ireti zd22_76 zs22 k
theorem b22_77 {x : zXs} {F : zF} (hF : zSh F) {d : Nat} {V : Nat → Nat → Int32} {T : Nat → Nat → Int64} {Q : Option Value → zG → Prop} {o0 : Option Value} {o1 : Option Value} {o2 : Option Value}   (k : Q (some (.int (Int32.ofInt (-2)))) (V, T)) : E x F d 22 77 [o0, o1, o2] [] (V, T) Q := by
  refine e_bipush zd22_77 (v := Int32.ofInt (-2)) (by decide +kernel) ?_
  exact e_ireti zd22_79 zs22 k
theorem zd23_0 : zop 23 0 = some (.iload_n 2, 1) := by decide +kernel
theorem zd23_1 : zop 23 1 = some (.tableswitch 57 1 3 #[27, 37, 47], 27) := by decide +kernel
theorem zd23_28 : zop 23 28 = some (.aload_n 0, 1) := by decide +kernel
theorem zd23_29 : zop 23 29 = some (.getfield 10, 3) := by decide +kernel
theorem zd23_32 : zop 23 32 = some (.getfield 77, 3) := by decide +kernel
theorem zd23_35 : zop 23 35 = some (.iload_n 1, 1) := by decide +kernel
theorem zd23_36 : zop 23 36 = some (.iaload, 1) := by decide +kernel
theorem zd23_37 : zop 23 37 = some (.ireturn, 1) := by decide +kernel
theorem zd23_38 : zop 23 38 = some (.aload_n 0, 1) := by decide +kernel
theorem zd23_39 : zop 23 39 = some (.getfield 10, 3) := by decide +kernel
theorem zd23_42 : zop 23 42 = some (.getfield 84, 3) := by decide +kernel
theorem zd23_45 : zop 23 45 = some (.iload_n 1, 1) := by decide +kernel
theorem zd23_46 : zop 23 46 = some (.iaload, 1) := by decide +kernel
theorem zd23_47 : zop 23 47 = some (.ireturn, 1) := by decide +kernel
theorem zd23_48 : zop 23 48 = some (.aload_n 0, 1) := by decide +kernel
theorem zd23_49 : zop 23 49 = some (.getfield 10, 3) := by decide +kernel
theorem zd23_52 : zop 23 52 = some (.getfield 104, 3) := by decide +kernel
theorem zd23_55 : zop 23 55 = some (.iload_n 1, 1) := by decide +kernel
theorem zd23_56 : zop 23 56 = some (.iaload, 1) := by decide +kernel
theorem zd23_57 : zop 23 57 = some (.ireturn, 1) := by decide +kernel
theorem zd23_58 : zop 23 58 = some (.aload_n 0, 1) := by decide +kernel
theorem zd23_59 : zop 23 59 = some (.getfield 25, 3) := by decide +kernel
theorem zd23_62 : zop 23 62 = some (.aload_n 0, 1) := by decide +kernel
theorem zd23_63 : zop 23 63 = some (.getfield 10, 3) := by decide +kernel
theorem zd23_66 : zop 23 66 = some (.iload_n 1, 1) := by decide +kernel
theorem zd23_67 : zop 23 67 = some (.invokevirtual 107, 3) := by decide +kernel
theorem zd23_70 : zop 23 70 = some (.ireturn, 1) := by decide +kernel
theorem b23_0 {x : zXs} {F : zF} (hF : zSh F) {d : Nat} {V : Nat → Nat → Int32} {T : Nat → Nat → Int64} {Q : Option Value → zG → Prop} {o0 : Option Value} {o1 : Option Value} {l2 : Int32}   (k0 : l2 = Int32.ofInt 1 → E x F d 23 28 [o0, o1, some (.int l2)] [] (V, T) Q) (k1 : l2 = Int32.ofInt 2 → E x F d 23 38 [o0, o1, some (.int l2)] [] (V, T) Q) (k2 : l2 = Int32.ofInt 3 → E x F d 23 48 [o0, o1, some (.int l2)] [] (V, T) Q) (kd : ¬ l2 = Int32.ofInt 1 ∧ ¬ l2 = Int32.ofInt 2 ∧ ¬ l2 = Int32.ofInt 3 → E x F d 23 58 [o0, o1, some (.int l2)] [] (V, T) Q) : E x F d 23 0 [o0, o1, some (.int l2)] [] (V, T) Q := by
  refine e_iload_n zd23_0 rfl ?_
  by_cases c0 : l2 = Int32.ofInt 1
  · exact e_tableIn zd23_1 (off := 27) (by rw [c0]; decide +kernel) (by rw [c0]; decide +kernel) (tg := 28) rfl (k0 c0)
  by_cases c1 : l2 = Int32.ofInt 2
  · exact e_tableIn zd23_1 (off := 37) (by rw [c1]; decide +kernel) (by rw [c1]; decide +kernel) (tg := 38) rfl (k1 c1)
  by_cases c2 : l2 = Int32.ofInt 3
  · exact e_tableIn zd23_1 (off := 47) (by rw [c2]; decide +kernel) (by rw [c2]; decide +kernel) (tg := 48) rfl (k2 c2)
  exact e_tableOut zd23_1 (zsw_out (lo := 1) (hi := 3) (by decide) (by decide) (fun v h1 h2 h => by
    rcases (show v = 1 ∨ v = 2 ∨ v = 3 by omega) with rfl | rfl | rfl
    · exact c0 h
    · exact c1 h
    · exact c2 h)) (tg := 58) rfl (kd ⟨c0, c1, c2⟩)
theorem b23_28 {x : zXs} {F : zF} (hF : zSh F) {d : Nat} {V : Nat → Nat → Int32} {T : Nat → Nat → Int64} {Q : Option Value → zG → Prop} {l1 : Int32} {o2 : Option Value}  {i1 : Nat} (e1 : l1 = nI i1) (h1 : i1 < 5) (k : Q (some (.int (V 5 i1))) (V, T)) : E x F d 23 28 [some (.ref 0), some (.int l1), o2] [] (V, T) Q := by
  refine e_aload_n zd23_28 rfl rfl ?_
  refine e_getO zd23_29 (own := 7) (ci := 7) (kf := 0) (w := 297) (by decide +kernel) (by decide +kernel) (zsh_at hF rfl).1 (by decide +kernel) rfl (zrf_at hF (i := 0) rfl) ?_
  refine e_getA zd23_32 (own := 7) (ci := 4) (kf := 3) (w := 121) (by decide +kernel) (by decide +kernel) (zsh_at hF rfl).1 (by decide +kernel) rfl (zrf_at hF (i := 11) rfl) ?_
  refine e_iload_n zd23_35 rfl ?_
  refine e_iald zd23_36 (i := i1) (zsh_at hF rfl) e1 h1 (by omega) ?_
  exact e_ireti zd23_37 zs23 k
theorem b23_38 {x : zXs} {F : zF} (hF : zSh F) {d : Nat} {V : Nat → Nat → Int32} {T : Nat → Nat → Int64} {Q : Option Value → zG → Prop} {l1 : Int32} {o2 : Option Value}  {i1 : Nat} (e1 : l1 = nI i1) (h1 : i1 < 5) (k : Q (some (.int (V 6 i1))) (V, T)) : E x F d 23 38 [some (.ref 0), some (.int l1), o2] [] (V, T) Q := by
  refine e_aload_n zd23_38 rfl rfl ?_
  refine e_getO zd23_39 (own := 7) (ci := 7) (kf := 0) (w := 297) (by decide +kernel) (by decide +kernel) (zsh_at hF rfl).1 (by decide +kernel) rfl (zrf_at hF (i := 0) rfl) ?_
  refine e_getA zd23_42 (own := 7) (ci := 4) (kf := 4) (w := 125) (by decide +kernel) (by decide +kernel) (zsh_at hF rfl).1 (by decide +kernel) rfl (zrf_at hF (i := 12) rfl) ?_
  refine e_iload_n zd23_45 rfl ?_
  refine e_iald zd23_46 (i := i1) (zsh_at hF rfl) e1 h1 (by omega) ?_
  exact e_ireti zd23_47 zs23 k
theorem b23_48 {x : zXs} {F : zF} (hF : zSh F) {d : Nat} {V : Nat → Nat → Int32} {T : Nat → Nat → Int64} {Q : Option Value → zG → Prop} {l1 : Int32} {o2 : Option Value}  {i1 : Nat} (e1 : l1 = nI i1) (h1 : i1 < 5) (k : Q (some (.int (V 4 i1))) (V, T)) : E x F d 23 48 [some (.ref 0), some (.int l1), o2] [] (V, T) Q := by
  refine e_aload_n zd23_48 rfl rfl ?_
  refine e_getO zd23_49 (own := 7) (ci := 7) (kf := 0) (w := 297) (by decide +kernel) (by decide +kernel) (zsh_at hF rfl).1 (by decide +kernel) rfl (zrf_at hF (i := 0) rfl) ?_
  refine e_getA zd23_52 (own := 7) (ci := 4) (kf := 2) (w := 118) (by decide +kernel) (by decide +kernel) (zsh_at hF rfl).1 (by decide +kernel) rfl (zrf_at hF (i := 10) rfl) ?_
  refine e_iload_n zd23_55 rfl ?_
  refine e_iald zd23_56 (i := i1) (zsh_at hF rfl) e1 h1 (by omega) ?_
  exact e_ireti zd23_57 zs23 k
theorem b23_58 {x : zXs} {F : zF} (hF : zSh F) {d : Nat} {V : Nat → Nat → Int32} {T : Nat → Nat → Int64} {Q : Option Value → zG → Prop} {l1 : Int32} {o2 : Option Value}   (k : E x F d 24 0 [some (.ref 19), some (.ref 1), some (.int l1), none, none] [] (V, T) (fun r G' => E x F (d + 1) 23 70 [some (.ref 0), some (.int l1), o2] (r.toList ++ []) G' Q)) : E x F (d + 1) 23 58 [some (.ref 0), some (.int l1), o2] [] (V, T) Q := by
  refine e_aload_n zd23_58 rfl rfl ?_
  refine e_getO zd23_59 (own := 7) (ci := 7) (kf := 3) (w := 300) (by decide +kernel) (by decide +kernel) (zsh_at hF rfl).1 (by decide +kernel) rfl (zrf_at hF (i := 3) rfl) ?_
  refine e_aload_n zd23_62 rfl rfl ?_
  refine e_getO zd23_63 (own := 7) (ci := 7) (kf := 0) (w := 297) (by decide +kernel) (by decide +kernel) (zsh_at hF rfl).1 (by decide +kernel) rfl (zrf_at hF (i := 0) rfl) ?_
  refine e_iload_n zd23_66 rfl ?_
  exact e_callV zd23_67 (own := 7) (nest := false) (w := 381) (by decide +kernel) (by decide +kernel) zs24 (as := [.ref 1, .int l1]) (rest := []) rfl rfl (zsh_at hF rfl).1 (by omega) (Nat.le_of_ble_eq_true rfl) rfl rfl rfl (by omega) k
theorem b23_70 {x : zXs} {F : zF} (hF : zSh F) {d : Nat} {V : Nat → Nat → Int32} {T : Nat → Nat → Int64} {Q : Option Value → zG → Prop} {o0 : Option Value} {o1 : Option Value} {o2 : Option Value} {s0 : Int32}   (k : Q (some (.int s0)) (V, T)) : E x F d 23 70 [o0, o1, o2] [.int s0] (V, T) Q := by
  exact e_ireti zd23_70 zs23 k
theorem zd24_0 : zop 24 0 = some (.aload_n 1, 1) := by decide +kernel
theorem zd24_1 : zop 24 1 = some (.getfield 38, 3) := by decide +kernel
theorem zd24_4 : zop 24 4 = some (.iload_n 2, 1) := by decide +kernel
theorem zd24_5 : zop 24 5 = some (.iaload, 1) := by decide +kernel
theorem zd24_6 : zop 24 6 = some (.istore_n 3, 1) := by decide +kernel
theorem zd24_7 : zop 24 7 = some (.iload_n 3, 1) := by decide +kernel
theorem zd24_8 : zop 24 8 = some (.aload_n 0, 1) := by decide +kernel
theorem zd24_9 : zop 24 9 = some (.getfield 12, 3) := by decide +kernel
theorem zd24_12 : zop 24 12 = some (.aload_n 1, 1) := by decide +kernel
theorem zd24_13 : zop 24 13 = some (.iload_n 2, 1) := by decide +kernel
theorem zd24_14 : zop 24 14 = some (.invokevirtual 41, 3) := by decide +kernel
theorem zd24_17 : zop 24 17 = some (.imul, 1) := by decide +kernel
theorem zd24_18 : zop 24 18 = some (.bipush 100, 2) := by decide +kernel
theorem zd24_20 : zop 24 20 = some (.idiv, 1) := by decide +kernel
theorem zd24_21 : zop 24 21 = some (.istore 4, 2) := by decide +kernel
theorem zd24_23 : zop 24 23 = some (.aload_n 1, 1) := by decide +kernel
theorem zd24_24 : zop 24 24 = some (.getfield 27, 3) := by decide +kernel
theorem zd24_27 : zop 24 27 = some (.iload_n 2, 1) := by decide +kernel
theorem zd24_28 : zop 24 28 = some (.iaload, 1) := by decide +kernel
theorem zd24_29 : zop 24 29 = some (.tableswitch 56 2 5 #[31, 33, 50, 54], 31) := by decide +kernel
theorem zd24_60 : zop 24 60 = some (.iload_n 3, 1) := by decide +kernel
theorem zd24_61 : zop 24 61 = some (.ireturn, 1) := by decide +kernel
theorem zd24_62 : zop 24 62 = some (.iload 4, 2) := by decide +kernel
theorem zd24_64 : zop 24 64 = some (.aload_n 1, 1) := by decide +kernel
theorem zd24_65 : zop 24 65 = some (.getfield 22, 3) := by decide +kernel
theorem zd24_68 : zop 24 68 = some (.iload_n 2, 1) := by decide +kernel
theorem zd24_69 : zop 24 69 = some (.iaload, 1) := by decide +kernel
theorem zd24_70 : zop 24 70 = some (.isub, 1) := by decide +kernel
theorem zd24_71 : zop 24 71 = some (.iconst 0, 1) := by decide +kernel
theorem zd24_72 : zop 24 72 = some (.sipush 999, 3) := by decide +kernel
theorem zd24_75 : zop 24 75 = some (.invokestatic 34, 3) := by decide +kernel
theorem zd24_78 : zop 24 78 = some (.ireturn, 1) := by decide +kernel
theorem zd24_79 : zop 24 79 = some (.iload_n 3, 1) := by decide +kernel
theorem zd24_80 : zop 24 80 = some (.iconst 2, 1) := by decide +kernel
theorem zd24_81 : zop 24 81 = some (.idiv, 1) := by decide +kernel
theorem zd24_82 : zop 24 82 = some (.ireturn, 1) := by decide +kernel
theorem zd24_83 : zop 24 83 = some (.iconst 0, 1) := by decide +kernel
theorem zd24_84 : zop 24 84 = some (.ireturn, 1) := by decide +kernel
theorem zd24_85 : zop 24 85 = some (.iload 4, 2) := by decide +kernel
theorem zd24_87 : zop 24 87 = some (.ireturn, 1) := by decide +kernel
theorem b24_0 {x : zXs} {F : zF} (hF : zSh F) {d : Nat} {V : Nat → Nat → Int32} {T : Nat → Nat → Int64} {Q : Option Value → zG → Prop} {l1 : Nat} {l2 : Int32} {o3 : Option Value} {o4 : Option Value} (hl1 : zSt l1) {i1 : Nat} (e1 : l2 = nI i1) (h1 : i1 < 5) (k : E x F d 25 0 [some (.ref 20), some (.ref l1), some (.int l2)] [] (V, T) (fun r G' => E x F (d + 1) 24 17 [some (.ref 19), some (.ref l1), some (.int l2), some (.int (V (l1 + 5) i1)), o4] (r.toList ++ [.int (V (l1 + 5) i1)]) G' Q)) : E x F (d + 1) 24 0 [some (.ref 19), some (.ref l1), some (.int l2), o3, o4] [] (V, T) Q := by
  refine e_aload_n zd24_0 rfl rfl ?_
  refine e_getA zd24_1 (own := 0) (ci := 4) (kf := 4) (w := 124) (by decide +kernel) (by decide +kernel) (zSt_s hF hl1).1 (by decide +kernel) rfl (zSt_f4 hF hl1) ?_
  refine e_iload_n zd24_4 rfl ?_
  refine e_iald zd24_5 (i := i1) (zSt_a4 hF hl1) e1 h1 (by omega) ?_
  refine e_istore_n zd24_6 (by decide +kernel) (Nat.le_of_ble_eq_true rfl) ?_
  refine e_iload_n zd24_7 rfl ?_
  refine e_aload_n zd24_8 rfl rfl ?_
  refine e_getO zd24_9 (own := 0) (ci := 0) (kf := 0) (w := 211) (by decide +kernel) (by decide +kernel) (zsh_at hF rfl).1 (by decide +kernel) rfl (zrf_at hF (i := 23) rfl) ?_
  refine e_aload_n zd24_12 rfl rfl ?_
  refine e_iload_n zd24_13 rfl ?_
  exact e_callV zd24_14 (own := 0) (nest := false) (w := 385) (by decide +kernel) (by decide +kernel) zs25 (as := [.ref l1, .int l2]) (rest := [.int (V (l1 + 5) i1)]) rfl rfl (zsh_at hF rfl).1 (by omega) (Nat.le_of_ble_eq_true rfl) rfl rfl rfl (by omega) k
theorem b24_17 {x : zXs} {F : zF} (hF : zSh F) {d : Nat} {V : Nat → Nat → Int32} {T : Nat → Nat → Int64} {Q : Option Value → zG → Prop} {o0 : Option Value} {l1 : Nat} {l2 : Int32} {o3 : Option Value} {o4 : Option Value} {s0 : Int32} {s1 : Int32} (hl1 : zSt l1) {i1 : Nat} (e1 : l2 = nI i1) (h1 : i1 < 5) (k0 : (V (l1 + 3) i1) = Int32.ofInt 2 → E x F d 24 60 [o0, some (.ref l1), some (.int l2), o3, some (.int ((s0 * s1) / (Int32.ofInt 100)))] [] (V, T) Q) (k1 : (V (l1 + 3) i1) = Int32.ofInt 3 → E x F d 24 62 [o0, some (.ref l1), some (.int l2), o3, some (.int ((s0 * s1) / (Int32.ofInt 100)))] [] (V, T) Q) (k2 : (V (l1 + 3) i1) = Int32.ofInt 4 → E x F d 24 79 [o0, some (.ref l1), some (.int l2), o3, some (.int ((s0 * s1) / (Int32.ofInt 100)))] [] (V, T) Q) (k3 : (V (l1 + 3) i1) = Int32.ofInt 5 → E x F d 24 83 [o0, some (.ref l1), some (.int l2), o3, some (.int ((s0 * s1) / (Int32.ofInt 100)))] [] (V, T) Q) (kd : ¬ (V (l1 + 3) i1) = Int32.ofInt 2 ∧ ¬ (V (l1 + 3) i1) = Int32.ofInt 3 ∧ ¬ (V (l1 + 3) i1) = Int32.ofInt 4 ∧ ¬ (V (l1 + 3) i1) = Int32.ofInt 5 → E x F d 24 85 [o0, some (.ref l1), some (.int l2), o3, some (.int ((s0 * s1) / (Int32.ofInt 100)))] [] (V, T) Q) : E x F d 24 17 [o0, some (.ref l1), some (.int l2), o3, o4] [.int s1, .int s0] (V, T) Q := by
  refine e_imul zd24_17 ?_
  refine e_bipush zd24_18 (v := Int32.ofInt 100) (by decide +kernel) ?_
  refine e_idiv zd24_20 (by decide +kernel) ?_
  refine e_istore zd24_21 (by decide +kernel) (Nat.le_of_ble_eq_true rfl) ?_
  refine e_aload_n zd24_23 rfl rfl ?_
  refine e_getA zd24_24 (own := 0) (ci := 4) (kf := 2) (w := 117) (by decide +kernel) (by decide +kernel) (zSt_s hF hl1).1 (by decide +kernel) rfl (zSt_f2 hF hl1) ?_
  refine e_iload_n zd24_27 rfl ?_
  refine e_iald zd24_28 (i := i1) (zSt_a2 hF hl1) e1 h1 (by omega) ?_
  by_cases c0 : (V (l1 + 3) i1) = Int32.ofInt 2
  · exact e_tableIn zd24_29 (off := 31) (by rw [c0]; decide +kernel) (by rw [c0]; decide +kernel) (tg := 60) rfl (k0 c0)
  by_cases c1 : (V (l1 + 3) i1) = Int32.ofInt 3
  · exact e_tableIn zd24_29 (off := 33) (by rw [c1]; decide +kernel) (by rw [c1]; decide +kernel) (tg := 62) rfl (k1 c1)
  by_cases c2 : (V (l1 + 3) i1) = Int32.ofInt 4
  · exact e_tableIn zd24_29 (off := 50) (by rw [c2]; decide +kernel) (by rw [c2]; decide +kernel) (tg := 79) rfl (k2 c2)
  by_cases c3 : (V (l1 + 3) i1) = Int32.ofInt 5
  · exact e_tableIn zd24_29 (off := 54) (by rw [c3]; decide +kernel) (by rw [c3]; decide +kernel) (tg := 83) rfl (k3 c3)
  exact e_tableOut zd24_29 (zsw_out (lo := 2) (hi := 5) (by decide) (by decide) (fun v h1 h2 h => by
    rcases (show v = 2 ∨ v = 3 ∨ v = 4 ∨ v = 5 by omega) with rfl | rfl | rfl | rfl
    · exact c0 h
    · exact c1 h
    · exact c2 h
    · exact c3 h)) (tg := 85) rfl (kd ⟨c0, c1, c2, c3⟩)
theorem b24_60 {x : zXs} {F : zF} (hF : zSh F) {d : Nat} {V : Nat → Nat → Int32} {T : Nat → Nat → Int64} {Q : Option Value → zG → Prop} {o0 : Option Value} {o1 : Option Value} {o2 : Option Value} {l3 : Int32} {o4 : Option Value}   (k : Q (some (.int l3)) (V, T)) : E x F d 24 60 [o0, o1, o2, some (.int l3), o4] [] (V, T) Q := by
  refine e_iload_n zd24_60 rfl ?_
  exact e_ireti zd24_61 zs24 k
theorem b24_62 {x : zXs} {F : zF} (hF : zSh F) {d : Nat} {V : Nat → Nat → Int32} {T : Nat → Nat → Int64} {Q : Option Value → zG → Prop} {o0 : Option Value} {l1 : Nat} {l2 : Int32} {o3 : Option Value} {l4 : Int32} (hl1 : zSt l1) {i1 : Nat} (e1 : l2 = nI i1) (h1 : i1 < 5) (k : E x F d 30 0 [some (.int (l4 - (V (l1 + 4) i1))), some (.int (Int32.ofInt 0)), some (.int (Int32.ofInt 999))] [] (V, T) (fun r G' => E x F (d + 1) 24 78 [o0, some (.ref l1), some (.int l2), o3, some (.int l4)] (r.toList ++ []) G' Q)) : E x F (d + 1) 24 62 [o0, some (.ref l1), some (.int l2), o3, some (.int l4)] [] (V, T) Q := by
  refine e_iload zd24_62 rfl ?_
  refine e_aload_n zd24_64 rfl rfl ?_
  refine e_getA zd24_65 (own := 0) (ci := 4) (kf := 3) (w := 120) (by decide +kernel) (by decide +kernel) (zSt_s hF hl1).1 (by decide +kernel) rfl (zSt_f3 hF hl1) ?_
  refine e_iload_n zd24_68 rfl ?_
  refine e_iald zd24_69 (i := i1) (zSt_a3 hF hl1) e1 h1 (by omega) ?_
  refine e_isub zd24_70 ?_
  refine e_iconst zd24_71 ?_
  refine e_sipush zd24_72 (v := Int32.ofInt 999) (by decide +kernel) ?_
  exact e_callS zd24_75 (own := 0) (nest := true) (w := 406) (by decide +kernel) (by decide +kernel) zs30 (as := [.int (l4 - (V (l1 + 4) i1)), .int (Int32.ofInt 0), .int (Int32.ofInt 999)]) (rest := []) rfl rfl (Nat.le_of_ble_eq_true rfl) rfl rfl rfl (by omega) k
theorem b24_78 {x : zXs} {F : zF} (hF : zSh F) {d : Nat} {V : Nat → Nat → Int32} {T : Nat → Nat → Int64} {Q : Option Value → zG → Prop} {o0 : Option Value} {o1 : Option Value} {o2 : Option Value} {o3 : Option Value} {o4 : Option Value} {s0 : Int32}   (k : Q (some (.int s0)) (V, T)) : E x F d 24 78 [o0, o1, o2, o3, o4] [.int s0] (V, T) Q := by
  exact e_ireti zd24_78 zs24 k
theorem b24_79 {x : zXs} {F : zF} (hF : zSh F) {d : Nat} {V : Nat → Nat → Int32} {T : Nat → Nat → Int64} {Q : Option Value → zG → Prop} {o0 : Option Value} {o1 : Option Value} {o2 : Option Value} {l3 : Int32} {o4 : Option Value}   (k : Q (some (.int (l3 / (Int32.ofInt 2)))) (V, T)) : E x F d 24 79 [o0, o1, o2, some (.int l3), o4] [] (V, T) Q := by
  refine e_iload_n zd24_79 rfl ?_
  refine e_iconst zd24_80 ?_
  refine e_idiv zd24_81 (by decide +kernel) ?_
  exact e_ireti zd24_82 zs24 k
theorem b24_83 {x : zXs} {F : zF} (hF : zSh F) {d : Nat} {V : Nat → Nat → Int32} {T : Nat → Nat → Int64} {Q : Option Value → zG → Prop} {o0 : Option Value} {o1 : Option Value} {o2 : Option Value} {o3 : Option Value} {o4 : Option Value}   (k : Q (some (.int (Int32.ofInt 0))) (V, T)) : E x F d 24 83 [o0, o1, o2, o3, o4] [] (V, T) Q := by
  refine e_iconst zd24_83 ?_
  exact e_ireti zd24_84 zs24 k
theorem b24_85 {x : zXs} {F : zF} (hF : zSh F) {d : Nat} {V : Nat → Nat → Int32} {T : Nat → Nat → Int64} {Q : Option Value → zG → Prop} {o0 : Option Value} {o1 : Option Value} {o2 : Option Value} {o3 : Option Value} {l4 : Int32}   (k : Q (some (.int l4)) (V, T)) : E x F d 24 85 [o0, o1, o2, o3, some (.int l4)] [] (V, T) Q := by
  refine e_iload zd24_85 rfl ?_
  exact e_ireti zd24_87 zs24 k
theorem zd25_0 : zop 25 0 = some (.aload_n 0, 1) := by decide +kernel
theorem zd25_1 : zop 25 1 = some (.aload_n 1, 1) := by decide +kernel
theorem zd25_2 : zop 25 2 = some (.iload_n 2, 1) := by decide +kernel
theorem zd25_3 : zop 25 3 = some (.invokevirtual 40, 3) := by decide +kernel
theorem zd25_6 : zop 25 6 = some (.aload_n 0, 1) := by decide +kernel
theorem zd25_7 : zop 25 7 = some (.getfield 17, 3) := by decide +kernel
theorem zd25_10 : zop 25 10 = some (.iconst 0, 1) := by decide +kernel
theorem zd25_11 : zop 25 11 = some (.iconst 0, 1) := by decide +kernel
theorem zd25_12 : zop 25 12 = some (.iastore, 1) := by decide +kernel
theorem zd25_13 : zop 25 13 = some (.aload_n 0, 1) := by decide +kernel
theorem zd25_14 : zop 25 14 = some (.getfield 17, 3) := by decide +kernel
theorem zd25_17 : zop 25 17 = some (.iconst 1, 1) := by decide +kernel
theorem zd25_18 : zop 25 18 = some (.iconst 0, 1) := by decide +kernel
theorem zd25_19 : zop 25 19 = some (.iastore, 1) := by decide +kernel
theorem zd25_20 : zop 25 20 = some (.aload_n 0, 1) := by decide +kernel
theorem zd25_21 : zop 25 21 = some (.getfield 17, 3) := by decide +kernel
theorem zd25_24 : zop 25 24 = some (.iconst 5, 1) := by decide +kernel
theorem zd25_25 : zop 25 25 = some (.iconst 0, 1) := by decide +kernel
theorem zd25_26 : zop 25 26 = some (.iastore, 1) := by decide +kernel
theorem zd25_27 : zop 25 27 = some (.aload_n 0, 1) := by decide +kernel
theorem zd25_28 : zop 25 28 = some (.aload_n 1, 1) := by decide +kernel
theorem zd25_29 : zop 25 29 = some (.getfield 44, 3) := by decide +kernel
theorem zd25_32 : zop 25 32 = some (.iconst 1, 1) := by decide +kernel
theorem zd25_33 : zop 25 33 = some (.invokevirtual 49, 3) := by decide +kernel
theorem zd25_36 : zop 25 36 = some (.iconst 0, 1) := by decide +kernel
theorem zd25_37 : zop 25 37 = some (.bipush 100, 2) := by decide +kernel
theorem zd25_39 : zop 25 39 = some (.invokestatic 53, 3) := by decide +kernel
theorem zd25_42 : zop 25 42 = some (.ireturn, 1) := by decide +kernel
theorem b25_0 {x : zXs} {F : zF} (hF : zSh F) {d : Nat} {V : Nat → Nat → Int32} {T : Nat → Nat → Int64} {Q : Option Value → zG → Prop} {l1 : Nat} {l2 : Int32} (hl1 : zSt l1)  (k : E x F d 26 0 [some (.ref 20), some (.ref l1), some (.int l2)] [] (V, T) (fun r G' => E x F (d + 1) 25 6 [some (.ref 20), some (.ref l1), some (.int l2)] (r.toList ++ []) G' Q)) : E x F (d + 1) 25 0 [some (.ref 20), some (.ref l1), some (.int l2)] [] (V, T) Q := by
  refine e_aload_n zd25_0 rfl rfl ?_
  refine e_aload_n zd25_1 rfl rfl ?_
  refine e_iload_n zd25_2 rfl ?_
  exact e_callV zd25_3 (own := 2) (nest := false) (w := 389) (by decide +kernel) (by decide +kernel) zs26 (as := [.ref l1, .int l2]) (rest := []) rfl rfl (zsh_at hF rfl).1 (by omega) (Nat.le_of_ble_eq_true rfl) rfl rfl rfl (by omega) k
theorem b25_6 {x : zXs} {F : zF} (hF : zSh F) {d : Nat} {V : Nat → Nat → Int32} {T : Nat → Nat → Int64} {Q : Option Value → zG → Prop} {l1 : Nat} {o2 : Option Value} (hl1 : zSt l1)  (k : E x F d 27 0 [some (.ref 20), some (.int ((zu (zu (zu V 22 0 (Int32.ofInt 0)) 22 1 (Int32.ofInt 0)) 22 5 (Int32.ofInt 0)) l1 7)), some (.int (Int32.ofInt 1)), none, none, none, none, none, none] [] (zu (zu (zu V 22 0 (Int32.ofInt 0)) 22 1 (Int32.ofInt 0)) 22 5 (Int32.ofInt 0), T) (fun r G' => E x F (d + 1) 25 36 [some (.ref 20), some (.ref l1), o2] (r.toList ++ []) G' Q)) : E x F (d + 1) 25 6 [some (.ref 20), some (.ref l1), o2] [] (V, T) Q := by
  refine e_aload_n zd25_6 rfl rfl ?_
  refine e_getA zd25_7 (own := 2) (ci := 2) (kf := 1) (w := 198) (by decide +kernel) (by decide +kernel) (zsh_at hF rfl).1 (by decide +kernel) rfl (zrf_at hF (i := 26) rfl) ?_
  refine e_iconst zd25_10 ?_
  refine e_iconst zd25_11 ?_
  refine e_iast zd25_12 (i := 0) (zsh_at hF rfl) rfl (by omega) (by omega) ?_
  refine e_aload_n zd25_13 rfl rfl ?_
  refine e_getA zd25_14 (own := 2) (ci := 2) (kf := 1) (w := 198) (by decide +kernel) (by decide +kernel) (zsh_at hF rfl).1 (by decide +kernel) rfl (zrf_at hF (i := 26) rfl) ?_
  refine e_iconst zd25_17 ?_
  refine e_iconst zd25_18 ?_
  refine e_iast zd25_19 (i := 1) (zsh_at hF rfl) rfl (by omega) (by omega) ?_
  refine e_aload_n zd25_20 rfl rfl ?_
  refine e_getA zd25_21 (own := 2) (ci := 2) (kf := 1) (w := 198) (by decide +kernel) (by decide +kernel) (zsh_at hF rfl).1 (by decide +kernel) rfl (zrf_at hF (i := 26) rfl) ?_
  refine e_iconst zd25_24 ?_
  refine e_iconst zd25_25 ?_
  refine e_iast zd25_26 (i := 5) (zsh_at hF rfl) rfl (by omega) (by omega) ?_
  refine e_aload_n zd25_27 rfl rfl ?_
  refine e_aload_n zd25_28 rfl rfl ?_
  refine e_getI zd25_29 (own := 2) (ci := 4) (kf := 7) (w := 135) (by decide +kernel) (by decide +kernel) (zSt_s hF hl1).1 (by decide +kernel) rfl ?_
  refine e_iconst zd25_32 ?_
  exact e_callV zd25_33 (own := 2) (nest := false) (w := 393) (by decide +kernel) (by decide +kernel) zs27 (as := [.int ((zu (zu (zu V 22 0 (Int32.ofInt 0)) 22 1 (Int32.ofInt 0)) 22 5 (Int32.ofInt 0)) l1 7), .int (Int32.ofInt 1)]) (rest := []) rfl rfl (zsh_at hF rfl).1 (by omega) (Nat.le_of_ble_eq_true rfl) rfl rfl rfl (by omega) k
theorem b25_36 {x : zXs} {F : zF} (hF : zSh F) {d : Nat} {V : Nat → Nat → Int32} {T : Nat → Nat → Int64} {Q : Option Value → zG → Prop} {o0 : Option Value} {o1 : Option Value} {o2 : Option Value} {s0 : Int32}   (k : E x F d 30 0 [some (.int s0), some (.int (Int32.ofInt 0)), some (.int (Int32.ofInt 100))] [] (V, T) (fun r G' => E x F (d + 1) 25 42 [o0, o1, o2] (r.toList ++ []) G' Q)) : E x F (d + 1) 25 36 [o0, o1, o2] [.int s0] (V, T) Q := by
  refine e_iconst zd25_36 ?_
  refine e_bipush zd25_37 (v := Int32.ofInt 100) (by decide +kernel) ?_
  exact e_callS zd25_39 (own := 2) (nest := true) (w := 403) (by decide +kernel) (by decide +kernel) zs30 (as := [.int s0, .int (Int32.ofInt 0), .int (Int32.ofInt 100)]) (rest := []) rfl rfl (Nat.le_of_ble_eq_true rfl) rfl rfl rfl (by omega) k
theorem b25_42 {x : zXs} {F : zF} (hF : zSh F) {d : Nat} {V : Nat → Nat → Int32} {T : Nat → Nat → Int64} {Q : Option Value → zG → Prop} {o0 : Option Value} {o1 : Option Value} {o2 : Option Value} {s0 : Int32}   (k : Q (some (.int s0)) (V, T)) : E x F d 25 42 [o0, o1, o2] [.int s0] (V, T) Q := by
  exact e_ireti zd25_42 zs25 k
theorem zd26_0 : zop 26 0 = some (.aload_n 0, 1) := by decide +kernel
theorem zd26_1 : zop 26 1 = some (.getfield 17, 3) := by decide +kernel
theorem zd26_4 : zop 26 4 = some (.iconst 2, 1) := by decide +kernel
theorem zd26_5 : zop 26 5 = some (.aload_n 1, 1) := by decide +kernel
theorem zd26_6 : zop 26 6 = some (.getfield 64, 3) := by decide +kernel
theorem zd26_9 : zop 26 9 = some (.iload_n 2, 1) := by decide +kernel
theorem zd26_10 : zop 26 10 = some (.iaload, 1) := by decide +kernel
theorem zd26_11 : zop 26 11 = some (.iastore, 1) := by decide +kernel
theorem zd26_12 : zop 26 12 = some (.aload_n 0, 1) := by decide +kernel
theorem zd26_13 : zop 26 13 = some (.getfield 17, 3) := by decide +kernel
theorem zd26_16 : zop 26 16 = some (.iconst 3, 1) := by decide +kernel
theorem zd26_17 : zop 26 17 = some (.aload_n 1, 1) := by decide +kernel
theorem zd26_18 : zop 26 18 = some (.getfield 61, 3) := by decide +kernel
theorem zd26_21 : zop 26 21 = some (.iastore, 1) := by decide +kernel
theorem zd26_22 : zop 26 22 = some (.aload_n 0, 1) := by decide +kernel
theorem zd26_23 : zop 26 23 = some (.getfield 17, 3) := by decide +kernel
theorem zd26_26 : zop 26 26 = some (.iconst 4, 1) := by decide +kernel
theorem zd26_27 : zop 26 27 = some (.aload_n 1, 1) := by decide +kernel
theorem zd26_28 : zop 26 28 = some (.getfield 67, 3) := by decide +kernel
theorem zd26_31 : zop 26 31 = some (.iload_n 2, 1) := by decide +kernel
theorem zd26_32 : zop 26 32 = some (.iaload, 1) := by decide +kernel
theorem zd26_33 : zop 26 33 = some (.iastore, 1) := by decide +kernel
theorem zd26_34 : zop 26 34 = some (.return_, 1) := by decide +kernel
theorem b26_0 {x : zXs} {F : zF} (hF : zSh F) {d : Nat} {V : Nat → Nat → Int32} {T : Nat → Nat → Int64} {Q : Option Value → zG → Prop} {l1 : Nat} {l2 : Int32} (hl1 : zSt l1) {i1 : Nat} (e1 : l2 = nI i1) (h1 : i1 < 5) {i2 : Nat} (e2 : l2 = nI i2) (h2 : i2 < 5) (k : Q none (zu (zu (zu V 22 2 (V (l1 + 4) i1)) 22 3 ((zu V 22 2 (V (l1 + 4) i1)) l1 6)) 22 4 ((zu (zu V 22 2 (V (l1 + 4) i1)) 22 3 ((zu V 22 2 (V (l1 + 4) i1)) l1 6)) (l1 + 5) i2), T)) : E x F d 26 0 [some (.ref 20), some (.ref l1), some (.int l2)] [] (V, T) Q := by
  refine e_aload_n zd26_0 rfl rfl ?_
  refine e_getA zd26_1 (own := 2) (ci := 2) (kf := 1) (w := 198) (by decide +kernel) (by decide +kernel) (zsh_at hF rfl).1 (by decide +kernel) rfl (zrf_at hF (i := 26) rfl) ?_
  refine e_iconst zd26_4 ?_
  refine e_aload_n zd26_5 rfl rfl ?_
  refine e_getA zd26_6 (own := 2) (ci := 4) (kf := 3) (w := 122) (by decide +kernel) (by decide +kernel) (zSt_s hF hl1).1 (by decide +kernel) rfl (zSt_f3 hF hl1) ?_
  refine e_iload_n zd26_9 rfl ?_
  refine e_iald zd26_10 (i := i1) (zSt_a3 hF hl1) e1 h1 (by omega) ?_
  refine e_iast zd26_11 (i := 2) (zsh_at hF rfl) rfl (by omega) (by omega) ?_
  refine e_aload_n zd26_12 rfl rfl ?_
  refine e_getA zd26_13 (own := 2) (ci := 2) (kf := 1) (w := 198) (by decide +kernel) (by decide +kernel) (zsh_at hF rfl).1 (by decide +kernel) rfl (zrf_at hF (i := 26) rfl) ?_
  refine e_iconst zd26_16 ?_
  refine e_aload_n zd26_17 rfl rfl ?_
  refine e_getI zd26_18 (own := 2) (ci := 4) (kf := 6) (w := 132) (by decide +kernel) (by decide +kernel) (zSt_s hF hl1).1 (by decide +kernel) rfl ?_
  refine e_iast zd26_21 (i := 3) (zsh_at hF rfl) rfl (by omega) (by omega) ?_
  refine e_aload_n zd26_22 rfl rfl ?_
  refine e_getA zd26_23 (own := 2) (ci := 2) (kf := 1) (w := 198) (by decide +kernel) (by decide +kernel) (zsh_at hF rfl).1 (by decide +kernel) rfl (zrf_at hF (i := 26) rfl) ?_
  refine e_iconst zd26_26 ?_
  refine e_aload_n zd26_27 rfl rfl ?_
  refine e_getA zd26_28 (own := 2) (ci := 4) (kf := 4) (w := 126) (by decide +kernel) (by decide +kernel) (zSt_s hF hl1).1 (by decide +kernel) rfl (zSt_f4 hF hl1) ?_
  refine e_iload_n zd26_31 rfl ?_
  refine e_iald zd26_32 (i := i2) (zSt_a4 hF hl1) e2 h2 (by omega) ?_
  refine e_iast zd26_33 (i := 4) (zsh_at hF rfl) rfl (by omega) (by omega) ?_
  exact e_vret zd26_34 zs26 k
theorem zd27_0 : zop 27 0 = some (.iload_n 1, 1) := by decide +kernel
theorem zd27_1 : zop 27 1 = some (.ifCond .lt 20, 3) := by decide +kernel
theorem zd27_4 : zop 27 4 = some (.iload_n 1, 1) := by decide +kernel
theorem zd27_5 : zop 27 5 = some (.aload_n 0, 1) := by decide +kernel
theorem zd27_6 : zop 27 6 = some (.getfield 32, 3) := by decide +kernel
theorem zd27_9 : zop 27 9 = some (.if_icmp .ge 12, 3) := by decide +kernel
theorem zd27_12 : zop 27 12 = some (.iload_n 2, 1) := by decide +kernel
theorem zd27_13 : zop 27 13 = some (.ifCond .lt 8, 3) := by decide +kernel
theorem zd27_16 : zop 27 16 = some (.iload_n 2, 1) := by decide +kernel
theorem zd27_17 : zop 27 17 = some (.iconst 3, 1) := by decide +kernel
theorem zd27_18 : zop 27 18 = some (.if_icmp .lt 5, 3) := by decide +kernel
theorem zd27_21 : zop 27 21 = some (.iconst 0, 1) := by decide +kernel
theorem zd27_22 : zop 27 22 = some (.ireturn, 1) := by decide +kernel
theorem zd27_23 : zop 27 23 = some (.aload_n 0, 1) := by decide +kernel
theorem zd27_24 : zop 27 24 = some (.getfield 11, 3) := by decide +kernel
theorem zd27_27 : zop 27 27 = some (.iload_n 1, 1) := by decide +kernel
theorem zd27_28 : zop 27 28 = some (.aaload, 1) := by decide +kernel
theorem zd27_29 : zop 27 29 = some (.getfield 70, 3) := by decide +kernel
theorem zd27_32 : zop 27 32 = some (.astore_n 3, 1) := by decide +kernel
theorem zd27_33 : zop 27 33 = some (.aload_n 0, 1) := by decide +kernel
theorem zd27_34 : zop 27 34 = some (.getfield 11, 3) := by decide +kernel
theorem zd27_37 : zop 27 37 = some (.iload_n 1, 1) := by decide +kernel
theorem zd27_38 : zop 27 38 = some (.aaload, 1) := by decide +kernel
theorem zd27_39 : zop 27 39 = some (.getfield 73, 3) := by decide +kernel
theorem zd27_42 : zop 27 42 = some (.iload_n 2, 1) := by decide +kernel
theorem zd27_43 : zop 27 43 = some (.iaload, 1) := by decide +kernel
theorem zd27_44 : zop 27 44 = some (.istore 4, 2) := by decide +kernel
theorem zd27_46 : zop 27 46 = some (.iconst 0, 1) := by decide +kernel
theorem zd27_47 : zop 27 47 = some (.istore 5, 2) := by decide +kernel
theorem zd27_49 : zop 27 49 = some (.iload_n 2, 1) := by decide +kernel
theorem zd27_50 : zop 27 50 = some (.ifCond .ne 7, 3) := by decide +kernel
theorem zd27_53 : zop 27 53 = some (.iconst 0, 1) := by decide +kernel
theorem zd27_54 : zop 27 54 = some (.goto 16, 3) := by decide +kernel
theorem zd27_57 : zop 27 57 = some (.aload_n 0, 1) := by decide +kernel
theorem zd27_58 : zop 27 58 = some (.getfield 11, 3) := by decide +kernel
theorem zd27_61 : zop 27 61 = some (.iload_n 1, 1) := by decide +kernel
theorem zd27_62 : zop 27 62 = some (.aaload, 1) := by decide +kernel
theorem zd27_63 : zop 27 63 = some (.getfield 73, 3) := by decide +kernel
theorem zd27_66 : zop 27 66 = some (.iload_n 2, 1) := by decide +kernel
theorem zd27_67 : zop 27 67 = some (.iconst 1, 1) := by decide +kernel
theorem zd27_68 : zop 27 68 = some (.isub, 1) := by decide +kernel
theorem zd27_69 : zop 27 69 = some (.iaload, 1) := by decide +kernel
theorem zd27_70 : zop 27 70 = some (.istore 6, 2) := by decide +kernel
theorem zd27_72 : zop 27 72 = some (.iload 6, 2) := by decide +kernel
theorem zd27_74 : zop 27 74 = some (.iload 4, 2) := by decide +kernel
theorem zd27_76 : zop 27 76 = some (.if_icmp .ge 186, 3) := by decide +kernel
theorem zd27_79 : zop 27 79 = some (.aload_n 3, 1) := by decide +kernel
theorem zd27_80 : zop 27 80 = some (.iload 6, 2) := by decide +kernel
theorem zd27_82 : zop 27 82 = some (.iaload, 1) := by decide +kernel
theorem zd27_83 : zop 27 83 = some (.istore 7, 2) := by decide +kernel
theorem zd27_85 : zop 27 85 = some (.iload 7, 2) := by decide +kernel
theorem zd27_87 : zop 27 87 = some (.ifCond .lt 14, 3) := by decide +kernel
theorem zd27_90 : zop 27 90 = some (.iload 7, 2) := by decide +kernel
theorem zd27_92 : zop 27 92 = some (.bipush 6, 2) := by decide +kernel
theorem zd27_94 : zop 27 94 = some (.if_icmp .ge 7, 3) := by decide +kernel
theorem zd27_97 : zop 27 97 = some (.iconst 1, 1) := by decide +kernel
theorem zd27_98 : zop 27 98 = some (.goto 4, 3) := by decide +kernel
theorem zd27_101 : zop 27 101 = some (.iconst 0, 1) := by decide +kernel
theorem zd27_102 : zop 27 102 = some (.istore 8, 2) := by decide +kernel
theorem zd27_104 : zop 27 104 = some (.iload 8, 2) := by decide +kernel
theorem zd27_106 : zop 27 106 = some (.ifCond .ne 10, 3) := by decide +kernel
theorem zd27_109 : zop 27 109 = some (.iload 7, 2) := by decide +kernel
theorem zd27_111 : zop 27 111 = some (.bipush 100, 2) := by decide +kernel
theorem zd27_113 : zop 27 113 = some (.if_icmp .lt 44, 3) := by decide +kernel
theorem zd27_116 : zop 27 116 = some (.iload 5, 2) := by decide +kernel
theorem zd27_118 : zop 27 118 = some (.sipush 160, 3) := by decide +kernel
theorem zd27_121 : zop 27 121 = some (.if_icmp .ge 36, 3) := by decide +kernel
theorem zd27_124 : zop 27 124 = some (.aload_n 0, 1) := by decide +kernel
theorem zd27_125 : zop 27 125 = some (.getfield 21, 3) := by decide +kernel
theorem zd27_128 : zop 27 128 = some (.iload 5, 2) := by decide +kernel
theorem zd27_130 : zop 27 130 = some (.iload 8, 2) := by decide +kernel
theorem zd27_132 : zop 27 132 = some (.ifCond .eq 13, 3) := by decide +kernel
theorem zd27_135 : zop 27 135 = some (.aload_n 0, 1) := by decide +kernel
theorem zd27_136 : zop 27 136 = some (.getfield 17, 3) := by decide +kernel
theorem zd27_139 : zop 27 139 = some (.iload 7, 2) := by decide +kernel
theorem zd27_141 : zop 27 141 = some (.iaload, 1) := by decide +kernel
theorem zd27_142 : zop 27 142 = some (.goto 8, 3) := by decide +kernel
theorem zd27_145 : zop 27 145 = some (.iload 7, 2) := by decide +kernel
theorem zd27_147 : zop 27 147 = some (.bipush 100, 2) := by decide +kernel
theorem zd27_149 : zop 27 149 = some (.isub, 1) := by decide +kernel
theorem zd27_150 : zop 27 150 = some (.iastore, 1) := by decide +kernel
theorem zd27_151 : zop 27 151 = some (.iinc 5 1, 3) := by decide +kernel
theorem zd27_154 : zop 27 154 = some (.goto 102, 3) := by decide +kernel
theorem zd27_157 : zop 27 157 = some (.iload 7, 2) := by decide +kernel
theorem zd27_159 : zop 27 159 = some (.bipush 6, 2) := by decide +kernel
theorem zd27_161 : zop 27 161 = some (.if_icmp .eq 10, 3) := by decide +kernel
theorem zd27_164 : zop 27 164 = some (.iload 7, 2) := by decide +kernel
theorem zd27_166 : zop 27 166 = some (.bipush 7, 2) := by decide +kernel
theorem zd27_168 : zop 27 168 = some (.if_icmp .ne 35, 3) := by decide +kernel
theorem zd27_171 : zop 27 171 = some (.iload 5, 2) := by decide +kernel
theorem zd27_173 : zop 27 173 = some (.iconst 1, 1) := by decide +kernel
theorem zd27_174 : zop 27 174 = some (.if_icmp .lt 29, 3) := by decide +kernel
theorem zd27_177 : zop 27 177 = some (.aload_n 0, 1) := by decide +kernel
theorem zd27_178 : zop 27 178 = some (.getfield 21, 3) := by decide +kernel
theorem zd27_181 : zop 27 181 = some (.iload 5, 2) := by decide +kernel
theorem zd27_183 : zop 27 183 = some (.iconst 1, 1) := by decide +kernel
theorem zd27_184 : zop 27 184 = some (.isub, 1) := by decide +kernel
theorem zd27_185 : zop 27 185 = some (.iload 7, 2) := by decide +kernel
theorem zd27_187 : zop 27 187 = some (.aload_n 0, 1) := by decide +kernel
theorem zd27_188 : zop 27 188 = some (.getfield 21, 3) := by decide +kernel
theorem zd27_191 : zop 27 191 = some (.iload 5, 2) := by decide +kernel
theorem zd27_193 : zop 27 193 = some (.iconst 1, 1) := by decide +kernel
theorem zd27_194 : zop 27 194 = some (.isub, 1) := by decide +kernel
theorem zd27_195 : zop 27 195 = some (.iaload, 1) := by decide +kernel
theorem zd27_196 : zop 27 196 = some (.invokestatic 76, 3) := by decide +kernel
theorem zd27_199 : zop 27 199 = some (.iastore, 1) := by decide +kernel
theorem zd27_200 : zop 27 200 = some (.goto 56, 3) := by decide +kernel
theorem zd27_203 : zop 27 203 = some (.iload 7, 2) := by decide +kernel
theorem zd27_205 : zop 27 205 = some (.bipush 8, 2) := by decide +kernel
theorem zd27_207 : zop 27 207 = some (.if_icmp .lt 49, 3) := by decide +kernel
theorem zd27_210 : zop 27 210 = some (.iload 7, 2) := by decide +kernel
theorem zd27_212 : zop 27 212 = some (.bipush 14, 2) := by decide +kernel
theorem zd27_214 : zop 27 214 = some (.if_icmp .gt 42, 3) := by decide +kernel
theorem zd27_217 : zop 27 217 = some (.iload 5, 2) := by decide +kernel
theorem zd27_219 : zop 27 219 = some (.iconst 2, 1) := by decide +kernel
theorem zd27_220 : zop 27 220 = some (.if_icmp .lt 36, 3) := by decide +kernel
theorem zd27_223 : zop 27 223 = some (.iinc 5 (-1), 3) := by decide +kernel
theorem zd27_226 : zop 27 226 = some (.aload_n 0, 1) := by decide +kernel
theorem zd27_227 : zop 27 227 = some (.getfield 21, 3) := by decide +kernel
theorem zd27_230 : zop 27 230 = some (.iload 5, 2) := by decide +kernel
theorem zd27_232 : zop 27 232 = some (.iconst 1, 1) := by decide +kernel
theorem zd27_233 : zop 27 233 = some (.isub, 1) := by decide +kernel
theorem zd27_234 : zop 27 234 = some (.iload 7, 2) := by decide +kernel
theorem zd27_236 : zop 27 236 = some (.aload_n 0, 1) := by decide +kernel
theorem zd27_237 : zop 27 237 = some (.getfield 21, 3) := by decide +kernel
theorem zd27_240 : zop 27 240 = some (.iload 5, 2) := by decide +kernel
theorem zd27_242 : zop 27 242 = some (.iconst 1, 1) := by decide +kernel
theorem zd27_243 : zop 27 243 = some (.isub, 1) := by decide +kernel
theorem zd27_244 : zop 27 244 = some (.iaload, 1) := by decide +kernel
theorem zd27_245 : zop 27 245 = some (.aload_n 0, 1) := by decide +kernel
theorem zd27_246 : zop 27 246 = some (.getfield 21, 3) := by decide +kernel
theorem zd27_249 : zop 27 249 = some (.iload 5, 2) := by decide +kernel
theorem zd27_251 : zop 27 251 = some (.iaload, 1) := by decide +kernel
theorem zd27_252 : zop 27 252 = some (.invokestatic 79, 3) := by decide +kernel
theorem zd27_255 : zop 27 255 = some (.iastore, 1) := by decide +kernel
theorem zd27_256 : zop 27 256 = some (.iinc 6 1, 3) := by decide +kernel
theorem zd27_259 : zop 27 259 = some (.goto (-187), 3) := by decide +kernel
theorem zd27_262 : zop 27 262 = some (.aload_n 0, 1) := by decide +kernel
theorem zd27_263 : zop 27 263 = some (.getfield 21, 3) := by decide +kernel
theorem zd27_266 : zop 27 266 = some (.iconst 0, 1) := by decide +kernel
theorem zd27_267 : zop 27 267 = some (.iaload, 1) := by decide +kernel
theorem zd27_268 : zop 27 268 = some (.ireturn, 1) := by decide +kernel
theorem b27_0 {x : zXs} {F : zF} (hF : zSh F) {d : Nat} {V : Nat → Nat → Int32} {T : Nat → Nat → Int64} {Q : Option Value → zG → Prop} {o0 : Option Value} {l1 : Int32} {o2 : Option Value} {o3 : Option Value} {o4 : Option Value} {o5 : Option Value} {o6 : Option Value} {o7 : Option Value} {o8 : Option Value}   (kt : l1 < 0 → E x F d 27 21 [o0, some (.int l1), o2, o3, o4, o5, o6, o7, o8] [] (V, T) Q) (kf : ¬ (l1 < 0) → E x F d 27 4 [o0, some (.int l1), o2, o3, o4, o5, o6, o7, o8] [] (V, T) Q) : E x F d 27 0 [o0, some (.int l1), o2, o3, o4, o5, o6, o7, o8] [] (V, T) Q := by
  refine e_iload_n zd27_0 rfl ?_
  exact e_if_lt zd27_1 (tg := 21) rfl kt kf
theorem b27_4 {x : zXs} {F : zF} (hF : zSh F) {d : Nat} {V : Nat → Nat → Int32} {T : Nat → Nat → Int64} {Q : Option Value → zG → Prop} {l1 : Int32} {o2 : Option Value} {o3 : Option Value} {o4 : Option Value} {o5 : Option Value} {o6 : Option Value} {o7 : Option Value} {o8 : Option Value}   (kt : (V 20 3) ≤ l1 → E x F d 27 21 [some (.ref 20), some (.int l1), o2, o3, o4, o5, o6, o7, o8] [] (V, T) Q) (kf : ¬ ((V 20 3) ≤ l1) → E x F d 27 12 [some (.ref 20), some (.int l1), o2, o3, o4, o5, o6, o7, o8] [] (V, T) Q) : E x F d 27 4 [some (.ref 20), some (.int l1), o2, o3, o4, o5, o6, o7, o8] [] (V, T) Q := by
  refine e_iload_n zd27_4 rfl ?_
  refine e_aload_n zd27_5 rfl rfl ?_
  refine e_getI zd27_6 (own := 2) (ci := 2) (kf := 3) (w := 200) (by decide +kernel) (by decide +kernel) (zsh_at hF rfl).1 (by decide +kernel) rfl ?_
  exact e_icmp_ge zd27_9 (tg := 21) rfl kt kf
theorem b27_12 {x : zXs} {F : zF} (hF : zSh F) {d : Nat} {V : Nat → Nat → Int32} {T : Nat → Nat → Int64} {Q : Option Value → zG → Prop} {o0 : Option Value} {o1 : Option Value} {l2 : Int32} {o3 : Option Value} {o4 : Option Value} {o5 : Option Value} {o6 : Option Value} {o7 : Option Value} {o8 : Option Value}   (kt : l2 < 0 → E x F d 27 21 [o0, o1, some (.int l2), o3, o4, o5, o6, o7, o8] [] (V, T) Q) (kf : ¬ (l2 < 0) → E x F d 27 16 [o0, o1, some (.int l2), o3, o4, o5, o6, o7, o8] [] (V, T) Q) : E x F d 27 12 [o0, o1, some (.int l2), o3, o4, o5, o6, o7, o8] [] (V, T) Q := by
  refine e_iload_n zd27_12 rfl ?_
  exact e_if_lt zd27_13 (tg := 21) rfl kt kf
theorem b27_16 {x : zXs} {F : zF} (hF : zSh F) {d : Nat} {V : Nat → Nat → Int32} {T : Nat → Nat → Int64} {Q : Option Value → zG → Prop} {o0 : Option Value} {o1 : Option Value} {l2 : Int32} {o3 : Option Value} {o4 : Option Value} {o5 : Option Value} {o6 : Option Value} {o7 : Option Value} {o8 : Option Value}   (kt : l2 < (Int32.ofInt 3) → E x F d 27 23 [o0, o1, some (.int l2), o3, o4, o5, o6, o7, o8] [] (V, T) Q) (kf : ¬ (l2 < (Int32.ofInt 3)) → E x F d 27 21 [o0, o1, some (.int l2), o3, o4, o5, o6, o7, o8] [] (V, T) Q) : E x F d 27 16 [o0, o1, some (.int l2), o3, o4, o5, o6, o7, o8] [] (V, T) Q := by
  refine e_iload_n zd27_16 rfl ?_
  refine e_iconst zd27_17 ?_
  exact e_icmp_lt zd27_18 (tg := 23) rfl kt kf
theorem b27_21 {x : zXs} {F : zF} (hF : zSh F) {d : Nat} {V : Nat → Nat → Int32} {T : Nat → Nat → Int64} {Q : Option Value → zG → Prop} {o0 : Option Value} {o1 : Option Value} {o2 : Option Value} {o3 : Option Value} {o4 : Option Value} {o5 : Option Value} {o6 : Option Value} {o7 : Option Value} {o8 : Option Value}   (k : Q (some (.int (Int32.ofInt 0))) (V, T)) : E x F d 27 21 [o0, o1, o2, o3, o4, o5, o6, o7, o8] [] (V, T) Q := by
  refine e_iconst zd27_21 ?_
  exact e_ireti zd27_22 zs27 k
theorem b27_23 {x : zXs} {F : zF} (hF : zSh F) {d : Nat} {V : Nat → Nat → Int32} {T : Nat → Nat → Int64} {Q : Option Value → zG → Prop} {l1 : Int32} {l2 : Int32} {o3 : Option Value} {o4 : Option Value} {o5 : Option Value} {o6 : Option Value} {o7 : Option Value} {o8 : Option Value}  {i1 : Nat} (e1 : l1 = nI i1) (h1 : i1 < 6) {i2 : Nat} (e2 : l1 = nI i2) (h2 : i2 < 6) {i3 : Nat} (e3 : l2 = nI i3) (h3 : i3 < 3) (kt : ¬ l2 = 0 → E x F d 27 57 [some (.ref 20), some (.int l1), some (.int l2), some (.ref (24 + 3 * i1 + 1)), some (.int (V (24 + 3 * i2 + 2) i3)), some (.int (Int32.ofInt 0)), o6, o7, o8] [] (V, T) Q) (kf : ¬ (¬ l2 = 0) → E x F d 27 53 [some (.ref 20), some (.int l1), some (.int l2), some (.ref (24 + 3 * i1 + 1)), some (.int (V (24 + 3 * i2 + 2) i3)), some (.int (Int32.ofInt 0)), o6, o7, o8] [] (V, T) Q) : E x F d 27 23 [some (.ref 20), some (.int l1), some (.int l2), o3, o4, o5, o6, o7, o8] [] (V, T) Q := by
  refine e_aload_n zd27_23 rfl rfl ?_
  refine e_getA zd27_24 (own := 2) (ci := 2) (kf := 0) (w := 197) (by decide +kernel) (by decide +kernel) (zsh_at hF rfl).1 (by decide +kernel) rfl (zrf_at hF (i := 25) rfl) ?_
  refine e_iload_n zd27_27 rfl ?_
  refine e_aald zd27_28 (i := i1) (n := 6) ⟨Or.inl (zsh_at hF rfl).1, (zsh_at hF rfl).2⟩ e1 h1 (by omega) (zTxt_at hF h1).1 ?_
  refine e_getA zd27_29 (own := 2) (ci := 6) (kf := 0) (w := 175) (by decide +kernel) (by decide +kernel) (zTx_s hF (zTxt_in (i := i1) h1)).1 (by decide +kernel) rfl (zTx_f0 hF (zTxt_in (i := i1) h1)) ?_
  refine e_astore_n zd27_32 rfl (by decide +kernel) (Nat.le_of_ble_eq_true rfl) ?_
  refine e_aload_n zd27_33 rfl rfl ?_
  refine e_getA zd27_34 (own := 2) (ci := 2) (kf := 0) (w := 197) (by decide +kernel) (by decide +kernel) (zsh_at hF rfl).1 (by decide +kernel) rfl (zrf_at hF (i := 25) rfl) ?_
  refine e_iload_n zd27_37 rfl ?_
  refine e_aald zd27_38 (i := i2) (n := 6) ⟨Or.inl (zsh_at hF rfl).1, (zsh_at hF rfl).2⟩ e2 h2 (by omega) (zTxt_at hF h2).1 ?_
  refine e_getA zd27_39 (own := 2) (ci := 6) (kf := 1) (w := 177) (by decide +kernel) (by decide +kernel) (zTx_s hF (zTxt_in (i := i2) h2)).1 (by decide +kernel) rfl (zTx_f1 hF (zTxt_in (i := i2) h2)) ?_
  refine e_iload_n zd27_42 rfl ?_
  refine e_iald zd27_43 (i := i3) (zTx_a1 hF (zTxt_in (i := i2) h2)) e3 h3 (by omega) ?_
  refine e_istore zd27_44 (by decide +kernel) (Nat.le_of_ble_eq_true rfl) ?_
  refine e_iconst zd27_46 ?_
  refine e_istore zd27_47 (by decide +kernel) (Nat.le_of_ble_eq_true rfl) ?_
  refine e_iload_n zd27_49 rfl ?_
  exact e_if_ne zd27_50 (tg := 57) rfl kt kf
theorem b27_53 {x : zXs} {F : zF} (hF : zSh F) {d : Nat} {V : Nat → Nat → Int32} {T : Nat → Nat → Int64} {Q : Option Value → zG → Prop} {o0 : Option Value} {o1 : Option Value} {o2 : Option Value} {o3 : Option Value} {o4 : Option Value} {o5 : Option Value} {o6 : Option Value} {o7 : Option Value} {o8 : Option Value}   (k : E x F d 27 70 [o0, o1, o2, o3, o4, o5, o6, o7, o8] [.int (Int32.ofInt 0)] (V, T) Q) : E x F d 27 53 [o0, o1, o2, o3, o4, o5, o6, o7, o8] [] (V, T) Q := by
  refine e_iconst zd27_53 ?_
  exact e_goto zd27_54 (tg := 70) rfl k
theorem b27_57 {x : zXs} {F : zF} (hF : zSh F) {d : Nat} {V : Nat → Nat → Int32} {T : Nat → Nat → Int64} {Q : Option Value → zG → Prop} {l1 : Int32} {l2 : Int32} {o3 : Option Value} {o4 : Option Value} {o5 : Option Value} {o6 : Option Value} {o7 : Option Value} {o8 : Option Value}  {i1 : Nat} (e1 : l1 = nI i1) (h1 : i1 < 6) {i2 : Nat} (e2 : l2 - (Int32.ofInt 1) = nI i2) (h2 : i2 < 3) (k : E x F d 27 70 [some (.ref 20), some (.int l1), some (.int l2), o3, o4, o5, o6, o7, o8] [.int (V (24 + 3 * i1 + 2) i2)] (V, T) Q) : E x F d 27 57 [some (.ref 20), some (.int l1), some (.int l2), o3, o4, o5, o6, o7, o8] [] (V, T) Q := by
  refine e_aload_n zd27_57 rfl rfl ?_
  refine e_getA zd27_58 (own := 2) (ci := 2) (kf := 0) (w := 197) (by decide +kernel) (by decide +kernel) (zsh_at hF rfl).1 (by decide +kernel) rfl (zrf_at hF (i := 25) rfl) ?_
  refine e_iload_n zd27_61 rfl ?_
  refine e_aald zd27_62 (i := i1) (n := 6) ⟨Or.inl (zsh_at hF rfl).1, (zsh_at hF rfl).2⟩ e1 h1 (by omega) (zTxt_at hF h1).1 ?_
  refine e_getA zd27_63 (own := 2) (ci := 6) (kf := 1) (w := 177) (by decide +kernel) (by decide +kernel) (zTx_s hF (zTxt_in (i := i1) h1)).1 (by decide +kernel) rfl (zTx_f1 hF (zTxt_in (i := i1) h1)) ?_
  refine e_iload_n zd27_66 rfl ?_
  refine e_iconst zd27_67 ?_
  refine e_isub zd27_68 ?_
  refine e_iald zd27_69 (i := i2) (zTx_a1 hF (zTxt_in (i := i1) h1)) e2 h2 (by omega) ?_
  exact k
theorem b27_70 {x : zXs} {F : zF} (hF : zSh F) {d : Nat} {V : Nat → Nat → Int32} {T : Nat → Nat → Int64} {Q : Option Value → zG → Prop} {o0 : Option Value} {o1 : Option Value} {o2 : Option Value} {o3 : Option Value} {o4 : Option Value} {o5 : Option Value} {o6 : Option Value} {o7 : Option Value} {o8 : Option Value} {s0 : Int32}   (k : E x F d 27 72 [o0, o1, o2, o3, o4, o5, some (.int s0), o7, o8] [] (V, T) Q) : E x F d 27 70 [o0, o1, o2, o3, o4, o5, o6, o7, o8] [.int s0] (V, T) Q := by
  refine e_istore zd27_70 (by decide +kernel) (Nat.le_of_ble_eq_true rfl) ?_
  exact k
theorem b27_72 {x : zXs} {F : zF} (hF : zSh F) {d : Nat} {V : Nat → Nat → Int32} {T : Nat → Nat → Int64} {Q : Option Value → zG → Prop} {o0 : Option Value} {o1 : Option Value} {o2 : Option Value} {o3 : Option Value} {l4 : Int32} {o5 : Option Value} {l6 : Int32} {o7 : Option Value} {o8 : Option Value}   (kt : l4 ≤ l6 → E x F d 27 262 [o0, o1, o2, o3, some (.int l4), o5, some (.int l6), o7, o8] [] (V, T) Q) (kf : ¬ (l4 ≤ l6) → E x F d 27 79 [o0, o1, o2, o3, some (.int l4), o5, some (.int l6), o7, o8] [] (V, T) Q) : E x F d 27 72 [o0, o1, o2, o3, some (.int l4), o5, some (.int l6), o7, o8] [] (V, T) Q := by
  refine e_iload zd27_72 rfl ?_
  refine e_iload zd27_74 rfl ?_
  exact e_icmp_ge zd27_76 (tg := 262) rfl kt kf
theorem b27_79 {x : zXs} {F : zF} (hF : zSh F) {d : Nat} {V : Nat → Nat → Int32} {T : Nat → Nat → Int64} {Q : Option Value → zG → Prop} {o0 : Option Value} {o1 : Option Value} {o2 : Option Value} {l3 : Nat} {nl3 : Nat} {o4 : Option Value} {o5 : Option Value} {l6 : Int32} {o7 : Option Value} {o8 : Option Value} (hl3 : zsh F l3 = 100 ∧ zln F l3 = nl3) (qnl3 : nl3 < 2 ^ 31) {i1 : Nat} (e1 : l6 = nI i1) (h1 : i1 < nl3) (kt : (V l3 i1) < 0 → E x F d 27 101 [o0, o1, o2, some (.ref l3), o4, o5, some (.int l6), some (.int (V l3 i1)), o8] [] (V, T) Q) (kf : ¬ ((V l3 i1) < 0) → E x F d 27 90 [o0, o1, o2, some (.ref l3), o4, o5, some (.int l6), some (.int (V l3 i1)), o8] [] (V, T) Q) : E x F d 27 79 [o0, o1, o2, some (.ref l3), o4, o5, some (.int l6), o7, o8] [] (V, T) Q := by
  refine e_aload_n zd27_79 rfl rfl ?_
  refine e_iload zd27_80 rfl ?_
  refine e_iald zd27_82 (i := i1) (hl3) e1 h1 qnl3 ?_
  refine e_istore zd27_83 (by decide +kernel) (Nat.le_of_ble_eq_true rfl) ?_
  refine e_iload zd27_85 rfl ?_
  exact e_if_lt zd27_87 (tg := 101) rfl kt kf
theorem b27_90 {x : zXs} {F : zF} (hF : zSh F) {d : Nat} {V : Nat → Nat → Int32} {T : Nat → Nat → Int64} {Q : Option Value → zG → Prop} {o0 : Option Value} {o1 : Option Value} {o2 : Option Value} {o3 : Option Value} {o4 : Option Value} {o5 : Option Value} {o6 : Option Value} {l7 : Int32} {o8 : Option Value}   (kt : (Int32.ofInt 6) ≤ l7 → E x F d 27 101 [o0, o1, o2, o3, o4, o5, o6, some (.int l7), o8] [] (V, T) Q) (kf : ¬ ((Int32.ofInt 6) ≤ l7) → E x F d 27 97 [o0, o1, o2, o3, o4, o5, o6, some (.int l7), o8] [] (V, T) Q) : E x F d 27 90 [o0, o1, o2, o3, o4, o5, o6, some (.int l7), o8] [] (V, T) Q := by
  refine e_iload zd27_90 rfl ?_
  refine e_bipush zd27_92 (v := Int32.ofInt 6) (by decide +kernel) ?_
  exact e_icmp_ge zd27_94 (tg := 101) rfl kt kf
theorem b27_97 {x : zXs} {F : zF} (hF : zSh F) {d : Nat} {V : Nat → Nat → Int32} {T : Nat → Nat → Int64} {Q : Option Value → zG → Prop} {o0 : Option Value} {o1 : Option Value} {o2 : Option Value} {o3 : Option Value} {o4 : Option Value} {o5 : Option Value} {o6 : Option Value} {o7 : Option Value} {o8 : Option Value}   (k : E x F d 27 102 [o0, o1, o2, o3, o4, o5, o6, o7, o8] [.int (Int32.ofInt 1)] (V, T) Q) : E x F d 27 97 [o0, o1, o2, o3, o4, o5, o6, o7, o8] [] (V, T) Q := by
  refine e_iconst zd27_97 ?_
  exact e_goto zd27_98 (tg := 102) rfl k
theorem b27_101 {x : zXs} {F : zF} (hF : zSh F) {d : Nat} {V : Nat → Nat → Int32} {T : Nat → Nat → Int64} {Q : Option Value → zG → Prop} {o0 : Option Value} {o1 : Option Value} {o2 : Option Value} {o3 : Option Value} {o4 : Option Value} {o5 : Option Value} {o6 : Option Value} {o7 : Option Value} {o8 : Option Value}   (k : E x F d 27 102 [o0, o1, o2, o3, o4, o5, o6, o7, o8] [.int (Int32.ofInt 0)] (V, T) Q) : E x F d 27 101 [o0, o1, o2, o3, o4, o5, o6, o7, o8] [] (V, T) Q := by
  refine e_iconst zd27_101 ?_
  exact k
theorem b27_102 {x : zXs} {F : zF} (hF : zSh F) {d : Nat} {V : Nat → Nat → Int32} {T : Nat → Nat → Int64} {Q : Option Value → zG → Prop} {o0 : Option Value} {o1 : Option Value} {o2 : Option Value} {o3 : Option Value} {o4 : Option Value} {o5 : Option Value} {o6 : Option Value} {o7 : Option Value} {o8 : Option Value} {s0 : Int32}   (kt : ¬ s0 = 0 → E x F d 27 116 [o0, o1, o2, o3, o4, o5, o6, o7, some (.int s0)] [] (V, T) Q) (kf : ¬ (¬ s0 = 0) → E x F d 27 109 [o0, o1, o2, o3, o4, o5, o6, o7, some (.int s0)] [] (V, T) Q) : E x F d 27 102 [o0, o1, o2, o3, o4, o5, o6, o7, o8] [.int s0] (V, T) Q := by
  refine e_istore zd27_102 (by decide +kernel) (Nat.le_of_ble_eq_true rfl) ?_
  refine e_iload zd27_104 rfl ?_
  exact e_if_ne zd27_106 (tg := 116) rfl kt kf
theorem b27_109 {x : zXs} {F : zF} (hF : zSh F) {d : Nat} {V : Nat → Nat → Int32} {T : Nat → Nat → Int64} {Q : Option Value → zG → Prop} {o0 : Option Value} {o1 : Option Value} {o2 : Option Value} {o3 : Option Value} {o4 : Option Value} {o5 : Option Value} {o6 : Option Value} {l7 : Int32} {o8 : Option Value}   (kt : l7 < (Int32.ofInt 100) → E x F d 27 157 [o0, o1, o2, o3, o4, o5, o6, some (.int l7), o8] [] (V, T) Q) (kf : ¬ (l7 < (Int32.ofInt 100)) → E x F d 27 116 [o0, o1, o2, o3, o4, o5, o6, some (.int l7), o8] [] (V, T) Q) : E x F d 27 109 [o0, o1, o2, o3, o4, o5, o6, some (.int l7), o8] [] (V, T) Q := by
  refine e_iload zd27_109 rfl ?_
  refine e_bipush zd27_111 (v := Int32.ofInt 100) (by decide +kernel) ?_
  exact e_icmp_lt zd27_113 (tg := 157) rfl kt kf
theorem b27_116 {x : zXs} {F : zF} (hF : zSh F) {d : Nat} {V : Nat → Nat → Int32} {T : Nat → Nat → Int64} {Q : Option Value → zG → Prop} {o0 : Option Value} {o1 : Option Value} {o2 : Option Value} {o3 : Option Value} {o4 : Option Value} {l5 : Int32} {o6 : Option Value} {o7 : Option Value} {o8 : Option Value}   (kt : (Int32.ofInt 160) ≤ l5 → E x F d 27 157 [o0, o1, o2, o3, o4, some (.int l5), o6, o7, o8] [] (V, T) Q) (kf : ¬ ((Int32.ofInt 160) ≤ l5) → E x F d 27 124 [o0, o1, o2, o3, o4, some (.int l5), o6, o7, o8] [] (V, T) Q) : E x F d 27 116 [o0, o1, o2, o3, o4, some (.int l5), o6, o7, o8] [] (V, T) Q := by
  refine e_iload zd27_116 rfl ?_
  refine e_sipush zd27_118 (v := Int32.ofInt 160) (by decide +kernel) ?_
  exact e_icmp_ge zd27_121 (tg := 157) rfl kt kf
theorem b27_124 {x : zXs} {F : zF} (hF : zSh F) {d : Nat} {V : Nat → Nat → Int32} {T : Nat → Nat → Int64} {Q : Option Value → zG → Prop} {o1 : Option Value} {o2 : Option Value} {o3 : Option Value} {o4 : Option Value} {l5 : Int32} {o6 : Option Value} {o7 : Option Value} {l8 : Int32}   (kt : l8 = 0 → E x F d 27 145 [some (.ref 20), o1, o2, o3, o4, some (.int l5), o6, o7, some (.int l8)] [.int l5, .ref 23] (V, T) Q) (kf : ¬ (l8 = 0) → E x F d 27 135 [some (.ref 20), o1, o2, o3, o4, some (.int l5), o6, o7, some (.int l8)] [.int l5, .ref 23] (V, T) Q) : E x F d 27 124 [some (.ref 20), o1, o2, o3, o4, some (.int l5), o6, o7, some (.int l8)] [] (V, T) Q := by
  refine e_aload_n zd27_124 rfl rfl ?_
  refine e_getA zd27_125 (own := 2) (ci := 2) (kf := 2) (w := 199) (by decide +kernel) (by decide +kernel) (zsh_at hF rfl).1 (by decide +kernel) rfl (zrf_at hF (i := 27) rfl) ?_
  refine e_iload zd27_128 rfl ?_
  refine e_iload zd27_130 rfl ?_
  exact e_if_eq zd27_132 (tg := 145) rfl kt kf
theorem b27_135 {x : zXs} {F : zF} (hF : zSh F) {d : Nat} {V : Nat → Nat → Int32} {T : Nat → Nat → Int64} {Q : Option Value → zG → Prop} {o1 : Option Value} {o2 : Option Value} {o3 : Option Value} {o4 : Option Value} {o5 : Option Value} {o6 : Option Value} {l7 : Int32} {o8 : Option Value} {s0 : Nat} {ns0 : Nat} {s1 : Int32} (hs0 : zsh F s0 = 100 ∧ zln F s0 = ns0) (qns0 : ns0 < 2 ^ 31) {i1 : Nat} (e1 : l7 = nI i1) (h1 : i1 < 6) (k : E x F d 27 150 [some (.ref 20), o1, o2, o3, o4, o5, o6, some (.int l7), o8] [.int (V 22 i1), .int s1, .ref s0] (V, T) Q) : E x F d 27 135 [some (.ref 20), o1, o2, o3, o4, o5, o6, some (.int l7), o8] [.int s1, .ref s0] (V, T) Q := by
  refine e_aload_n zd27_135 rfl rfl ?_
  refine e_getA zd27_136 (own := 2) (ci := 2) (kf := 1) (w := 198) (by decide +kernel) (by decide +kernel) (zsh_at hF rfl).1 (by decide +kernel) rfl (zrf_at hF (i := 26) rfl) ?_
  refine e_iload zd27_139 rfl ?_
  refine e_iald zd27_141 (i := i1) (zsh_at hF rfl) e1 h1 (by omega) ?_
  exact e_goto zd27_142 (tg := 150) rfl k
theorem b27_145 {x : zXs} {F : zF} (hF : zSh F) {d : Nat} {V : Nat → Nat → Int32} {T : Nat → Nat → Int64} {Q : Option Value → zG → Prop} {o0 : Option Value} {o1 : Option Value} {o2 : Option Value} {o3 : Option Value} {o4 : Option Value} {o5 : Option Value} {o6 : Option Value} {l7 : Int32} {o8 : Option Value} {s0 : Nat} {ns0 : Nat} {s1 : Int32} (hs0 : zsh F s0 = 100 ∧ zln F s0 = ns0) (qns0 : ns0 < 2 ^ 31)  (k : E x F d 27 150 [o0, o1, o2, o3, o4, o5, o6, some (.int l7), o8] [.int (l7 - (Int32.ofInt 100)), .int s1, .ref s0] (V, T) Q) : E x F d 27 145 [o0, o1, o2, o3, o4, o5, o6, some (.int l7), o8] [.int s1, .ref s0] (V, T) Q := by
  refine e_iload zd27_145 rfl ?_
  refine e_bipush zd27_147 (v := Int32.ofInt 100) (by decide +kernel) ?_
  refine e_isub zd27_149 ?_
  exact k
theorem b27_150 {x : zXs} {F : zF} (hF : zSh F) {d : Nat} {V : Nat → Nat → Int32} {T : Nat → Nat → Int64} {Q : Option Value → zG → Prop} {o0 : Option Value} {o1 : Option Value} {o2 : Option Value} {o3 : Option Value} {o4 : Option Value} {l5 : Int32} {o6 : Option Value} {o7 : Option Value} {o8 : Option Value} {s0 : Nat} {ns0 : Nat} {s1 : Int32} {s2 : Int32} (hs0 : zsh F s0 = 100 ∧ zln F s0 = ns0) (qns0 : ns0 < 2 ^ 31) {i1 : Nat} (e1 : s1 = nI i1) (h1 : i1 < ns0) (k : E x F d 27 256 [o0, o1, o2, o3, o4, some (.int (l5 + Int32.ofInt 1)), o6, o7, o8] [] (zu V s0 i1 s2, T) Q) : E x F d 27 150 [o0, o1, o2, o3, o4, some (.int l5), o6, o7, o8] [.int s2, .int s1, .ref s0] (V, T) Q := by
  refine e_iast zd27_150 (i := i1) (hs0) e1 h1 qns0 ?_
  refine e_iinc zd27_151 rfl (by decide +kernel) ?_
  exact e_goto zd27_154 (tg := 256) rfl k
theorem b27_157 {x : zXs} {F : zF} (hF : zSh F) {d : Nat} {V : Nat → Nat → Int32} {T : Nat → Nat → Int64} {Q : Option Value → zG → Prop} {o0 : Option Value} {o1 : Option Value} {o2 : Option Value} {o3 : Option Value} {o4 : Option Value} {o5 : Option Value} {o6 : Option Value} {l7 : Int32} {o8 : Option Value}   (kt : l7 = (Int32.ofInt 6) → E x F d 27 171 [o0, o1, o2, o3, o4, o5, o6, some (.int l7), o8] [] (V, T) Q) (kf : ¬ (l7 = (Int32.ofInt 6)) → E x F d 27 164 [o0, o1, o2, o3, o4, o5, o6, some (.int l7), o8] [] (V, T) Q) : E x F d 27 157 [o0, o1, o2, o3, o4, o5, o6, some (.int l7), o8] [] (V, T) Q := by
  refine e_iload zd27_157 rfl ?_
  refine e_bipush zd27_159 (v := Int32.ofInt 6) (by decide +kernel) ?_
  exact e_icmp_eq zd27_161 (tg := 171) rfl kt kf
theorem b27_164 {x : zXs} {F : zF} (hF : zSh F) {d : Nat} {V : Nat → Nat → Int32} {T : Nat → Nat → Int64} {Q : Option Value → zG → Prop} {o0 : Option Value} {o1 : Option Value} {o2 : Option Value} {o3 : Option Value} {o4 : Option Value} {o5 : Option Value} {o6 : Option Value} {l7 : Int32} {o8 : Option Value}   (kt : ¬ l7 = (Int32.ofInt 7) → E x F d 27 203 [o0, o1, o2, o3, o4, o5, o6, some (.int l7), o8] [] (V, T) Q) (kf : ¬ (¬ l7 = (Int32.ofInt 7)) → E x F d 27 171 [o0, o1, o2, o3, o4, o5, o6, some (.int l7), o8] [] (V, T) Q) : E x F d 27 164 [o0, o1, o2, o3, o4, o5, o6, some (.int l7), o8] [] (V, T) Q := by
  refine e_iload zd27_164 rfl ?_
  refine e_bipush zd27_166 (v := Int32.ofInt 7) (by decide +kernel) ?_
  exact e_icmp_ne zd27_168 (tg := 203) rfl kt kf
theorem b27_171 {x : zXs} {F : zF} (hF : zSh F) {d : Nat} {V : Nat → Nat → Int32} {T : Nat → Nat → Int64} {Q : Option Value → zG → Prop} {o0 : Option Value} {o1 : Option Value} {o2 : Option Value} {o3 : Option Value} {o4 : Option Value} {l5 : Int32} {o6 : Option Value} {o7 : Option Value} {o8 : Option Value}   (kt : l5 < (Int32.ofInt 1) → E x F d 27 203 [o0, o1, o2, o3, o4, some (.int l5), o6, o7, o8] [] (V, T) Q) (kf : ¬ (l5 < (Int32.ofInt 1)) → E x F d 27 177 [o0, o1, o2, o3, o4, some (.int l5), o6, o7, o8] [] (V, T) Q) : E x F d 27 171 [o0, o1, o2, o3, o4, some (.int l5), o6, o7, o8] [] (V, T) Q := by
  refine e_iload zd27_171 rfl ?_
  refine e_iconst zd27_173 ?_
  exact e_icmp_lt zd27_174 (tg := 203) rfl kt kf
theorem b27_177 {x : zXs} {F : zF} (hF : zSh F) {d : Nat} {V : Nat → Nat → Int32} {T : Nat → Nat → Int64} {Q : Option Value → zG → Prop} {o1 : Option Value} {o2 : Option Value} {o3 : Option Value} {o4 : Option Value} {l5 : Int32} {o6 : Option Value} {l7 : Int32} {o8 : Option Value}  {i1 : Nat} (e1 : l5 - (Int32.ofInt 1) = nI i1) (h1 : i1 < 160) (k : E x F d 28 0 [some (.int l7), some (.int (V 23 i1))] [] (V, T) (fun r G' => E x F (d + 1) 27 199 [some (.ref 20), o1, o2, o3, o4, some (.int l5), o6, some (.int l7), o8] (r.toList ++ [.int (l5 - (Int32.ofInt 1)), .ref 23]) G' Q)) : E x F (d + 1) 27 177 [some (.ref 20), o1, o2, o3, o4, some (.int l5), o6, some (.int l7), o8] [] (V, T) Q := by
  refine e_aload_n zd27_177 rfl rfl ?_
  refine e_getA zd27_178 (own := 2) (ci := 2) (kf := 2) (w := 199) (by decide +kernel) (by decide +kernel) (zsh_at hF rfl).1 (by decide +kernel) rfl (zrf_at hF (i := 27) rfl) ?_
  refine e_iload zd27_181 rfl ?_
  refine e_iconst zd27_183 ?_
  refine e_isub zd27_184 ?_
  refine e_iload zd27_185 rfl ?_
  refine e_aload_n zd27_187 rfl rfl ?_
  refine e_getA zd27_188 (own := 2) (ci := 2) (kf := 2) (w := 199) (by decide +kernel) (by decide +kernel) (zsh_at hF rfl).1 (by decide +kernel) rfl (zrf_at hF (i := 27) rfl) ?_
  refine e_iload zd27_191 rfl ?_
  refine e_iconst zd27_193 ?_
  refine e_isub zd27_194 ?_
  refine e_iald zd27_195 (i := i1) (zsh_at hF rfl) e1 h1 (by omega) ?_
  exact e_callS zd27_196 (own := 2) (nest := false) (w := 397) (by decide +kernel) (by decide +kernel) zs28 (as := [.int l7, .int (V 23 i1)]) (rest := [.int (l5 - (Int32.ofInt 1)), .ref 23]) rfl rfl (Nat.le_of_ble_eq_true rfl) rfl rfl rfl (by omega) k
theorem b27_199 {x : zXs} {F : zF} (hF : zSh F) {d : Nat} {V : Nat → Nat → Int32} {T : Nat → Nat → Int64} {Q : Option Value → zG → Prop} {o0 : Option Value} {o1 : Option Value} {o2 : Option Value} {o3 : Option Value} {o4 : Option Value} {o5 : Option Value} {o6 : Option Value} {o7 : Option Value} {o8 : Option Value} {s0 : Nat} {ns0 : Nat} {s1 : Int32} {s2 : Int32} (hs0 : zsh F s0 = 100 ∧ zln F s0 = ns0) (qns0 : ns0 < 2 ^ 31) {i1 : Nat} (e1 : s1 = nI i1) (h1 : i1 < ns0) (k : E x F d 27 256 [o0, o1, o2, o3, o4, o5, o6, o7, o8] [] (zu V s0 i1 s2, T) Q) : E x F d 27 199 [o0, o1, o2, o3, o4, o5, o6, o7, o8] [.int s2, .int s1, .ref s0] (V, T) Q := by
  refine e_iast zd27_199 (i := i1) (hs0) e1 h1 qns0 ?_
  exact e_goto zd27_200 (tg := 256) rfl k
theorem b27_203 {x : zXs} {F : zF} (hF : zSh F) {d : Nat} {V : Nat → Nat → Int32} {T : Nat → Nat → Int64} {Q : Option Value → zG → Prop} {o0 : Option Value} {o1 : Option Value} {o2 : Option Value} {o3 : Option Value} {o4 : Option Value} {o5 : Option Value} {o6 : Option Value} {l7 : Int32} {o8 : Option Value}   (kt : l7 < (Int32.ofInt 8) → E x F d 27 256 [o0, o1, o2, o3, o4, o5, o6, some (.int l7), o8] [] (V, T) Q) (kf : ¬ (l7 < (Int32.ofInt 8)) → E x F d 27 210 [o0, o1, o2, o3, o4, o5, o6, some (.int l7), o8] [] (V, T) Q) : E x F d 27 203 [o0, o1, o2, o3, o4, o5, o6, some (.int l7), o8] [] (V, T) Q := by
  refine e_iload zd27_203 rfl ?_
  refine e_bipush zd27_205 (v := Int32.ofInt 8) (by decide +kernel) ?_
  exact e_icmp_lt zd27_207 (tg := 256) rfl kt kf
theorem b27_210 {x : zXs} {F : zF} (hF : zSh F) {d : Nat} {V : Nat → Nat → Int32} {T : Nat → Nat → Int64} {Q : Option Value → zG → Prop} {o0 : Option Value} {o1 : Option Value} {o2 : Option Value} {o3 : Option Value} {o4 : Option Value} {o5 : Option Value} {o6 : Option Value} {l7 : Int32} {o8 : Option Value}   (kt : (Int32.ofInt 14) < l7 → E x F d 27 256 [o0, o1, o2, o3, o4, o5, o6, some (.int l7), o8] [] (V, T) Q) (kf : ¬ ((Int32.ofInt 14) < l7) → E x F d 27 217 [o0, o1, o2, o3, o4, o5, o6, some (.int l7), o8] [] (V, T) Q) : E x F d 27 210 [o0, o1, o2, o3, o4, o5, o6, some (.int l7), o8] [] (V, T) Q := by
  refine e_iload zd27_210 rfl ?_
  refine e_bipush zd27_212 (v := Int32.ofInt 14) (by decide +kernel) ?_
  exact e_icmp_gt zd27_214 (tg := 256) rfl kt kf
theorem b27_217 {x : zXs} {F : zF} (hF : zSh F) {d : Nat} {V : Nat → Nat → Int32} {T : Nat → Nat → Int64} {Q : Option Value → zG → Prop} {o0 : Option Value} {o1 : Option Value} {o2 : Option Value} {o3 : Option Value} {o4 : Option Value} {l5 : Int32} {o6 : Option Value} {o7 : Option Value} {o8 : Option Value}   (kt : l5 < (Int32.ofInt 2) → E x F d 27 256 [o0, o1, o2, o3, o4, some (.int l5), o6, o7, o8] [] (V, T) Q) (kf : ¬ (l5 < (Int32.ofInt 2)) → E x F d 27 223 [o0, o1, o2, o3, o4, some (.int l5), o6, o7, o8] [] (V, T) Q) : E x F d 27 217 [o0, o1, o2, o3, o4, some (.int l5), o6, o7, o8] [] (V, T) Q := by
  refine e_iload zd27_217 rfl ?_
  refine e_iconst zd27_219 ?_
  exact e_icmp_lt zd27_220 (tg := 256) rfl kt kf
theorem b27_223 {x : zXs} {F : zF} (hF : zSh F) {d : Nat} {V : Nat → Nat → Int32} {T : Nat → Nat → Int64} {Q : Option Value → zG → Prop} {o1 : Option Value} {o2 : Option Value} {o3 : Option Value} {o4 : Option Value} {l5 : Int32} {o6 : Option Value} {l7 : Int32} {o8 : Option Value}  {i1 : Nat} (e1 : (l5 + Int32.ofInt (-1)) - (Int32.ofInt 1) = nI i1) (h1 : i1 < 160) {i2 : Nat} (e2 : l5 + Int32.ofInt (-1) = nI i2) (h2 : i2 < 160) (k : E x F d 29 0 [some (.int l7), some (.int (V 23 i1)), some (.int (V 23 i2))] [] (V, T) (fun r G' => E x F (d + 1) 27 255 [some (.ref 20), o1, o2, o3, o4, some (.int (l5 + Int32.ofInt (-1))), o6, some (.int l7), o8] (r.toList ++ [.int ((l5 + Int32.ofInt (-1)) - (Int32.ofInt 1)), .ref 23]) G' Q)) : E x F (d + 1) 27 223 [some (.ref 20), o1, o2, o3, o4, some (.int l5), o6, some (.int l7), o8] [] (V, T) Q := by
  refine e_iinc zd27_223 rfl (by decide +kernel) ?_
  refine e_aload_n zd27_226 rfl rfl ?_
  refine e_getA zd27_227 (own := 2) (ci := 2) (kf := 2) (w := 199) (by decide +kernel) (by decide +kernel) (zsh_at hF rfl).1 (by decide +kernel) rfl (zrf_at hF (i := 27) rfl) ?_
  refine e_iload zd27_230 rfl ?_
  refine e_iconst zd27_232 ?_
  refine e_isub zd27_233 ?_
  refine e_iload zd27_234 rfl ?_
  refine e_aload_n zd27_236 rfl rfl ?_
  refine e_getA zd27_237 (own := 2) (ci := 2) (kf := 2) (w := 199) (by decide +kernel) (by decide +kernel) (zsh_at hF rfl).1 (by decide +kernel) rfl (zrf_at hF (i := 27) rfl) ?_
  refine e_iload zd27_240 rfl ?_
  refine e_iconst zd27_242 ?_
  refine e_isub zd27_243 ?_
  refine e_iald zd27_244 (i := i1) (zsh_at hF rfl) e1 h1 (by omega) ?_
  refine e_aload_n zd27_245 rfl rfl ?_
  refine e_getA zd27_246 (own := 2) (ci := 2) (kf := 2) (w := 199) (by decide +kernel) (by decide +kernel) (zsh_at hF rfl).1 (by decide +kernel) rfl (zrf_at hF (i := 27) rfl) ?_
  refine e_iload zd27_249 rfl ?_
  refine e_iald zd27_251 (i := i2) (zsh_at hF rfl) e2 h2 (by omega) ?_
  exact e_callS zd27_252 (own := 2) (nest := false) (w := 400) (by decide +kernel) (by decide +kernel) zs29 (as := [.int l7, .int (V 23 i1), .int (V 23 i2)]) (rest := [.int ((l5 + Int32.ofInt (-1)) - (Int32.ofInt 1)), .ref 23]) rfl rfl (Nat.le_of_ble_eq_true rfl) rfl rfl rfl (by omega) k
theorem b27_255 {x : zXs} {F : zF} (hF : zSh F) {d : Nat} {V : Nat → Nat → Int32} {T : Nat → Nat → Int64} {Q : Option Value → zG → Prop} {o0 : Option Value} {o1 : Option Value} {o2 : Option Value} {o3 : Option Value} {o4 : Option Value} {o5 : Option Value} {o6 : Option Value} {o7 : Option Value} {o8 : Option Value} {s0 : Nat} {ns0 : Nat} {s1 : Int32} {s2 : Int32} (hs0 : zsh F s0 = 100 ∧ zln F s0 = ns0) (qns0 : ns0 < 2 ^ 31) {i1 : Nat} (e1 : s1 = nI i1) (h1 : i1 < ns0) (k : E x F d 27 256 [o0, o1, o2, o3, o4, o5, o6, o7, o8] [] (zu V s0 i1 s2, T) Q) : E x F d 27 255 [o0, o1, o2, o3, o4, o5, o6, o7, o8] [.int s2, .int s1, .ref s0] (V, T) Q := by
  refine e_iast zd27_255 (i := i1) (hs0) e1 h1 qns0 ?_
  exact k
theorem b27_256 {x : zXs} {F : zF} (hF : zSh F) {d : Nat} {V : Nat → Nat → Int32} {T : Nat → Nat → Int64} {Q : Option Value → zG → Prop} {o0 : Option Value} {o1 : Option Value} {o2 : Option Value} {o3 : Option Value} {o4 : Option Value} {o5 : Option Value} {l6 : Int32} {o7 : Option Value} {o8 : Option Value}   (k : E x F d 27 72 [o0, o1, o2, o3, o4, o5, some (.int (l6 + Int32.ofInt 1)), o7, o8] [] (V, T) Q) : E x F d 27 256 [o0, o1, o2, o3, o4, o5, some (.int l6), o7, o8] [] (V, T) Q := by
  refine e_iinc zd27_256 rfl (by decide +kernel) ?_
  exact e_goto zd27_259 (tg := 72) rfl k
theorem b27_262 {x : zXs} {F : zF} (hF : zSh F) {d : Nat} {V : Nat → Nat → Int32} {T : Nat → Nat → Int64} {Q : Option Value → zG → Prop} {o1 : Option Value} {o2 : Option Value} {o3 : Option Value} {o4 : Option Value} {o5 : Option Value} {o6 : Option Value} {o7 : Option Value} {o8 : Option Value}   (k : Q (some (.int (V 23 0))) (V, T)) : E x F d 27 262 [some (.ref 20), o1, o2, o3, o4, o5, o6, o7, o8] [] (V, T) Q := by
  refine e_aload_n zd27_262 rfl rfl ?_
  refine e_getA zd27_263 (own := 2) (ci := 2) (kf := 2) (w := 199) (by decide +kernel) (by decide +kernel) (zsh_at hF rfl).1 (by decide +kernel) rfl (zrf_at hF (i := 27) rfl) ?_
  refine e_iconst zd27_266 ?_
  refine e_iald zd27_267 (i := 0) (zsh_at hF rfl) rfl (by omega) (by omega) ?_
  exact e_ireti zd27_268 zs27 k
theorem zd28_0 : zop 28 0 = some (.iload_n 0, 1) := by decide +kernel
theorem zd28_1 : zop 28 1 = some (.bipush 6, 2) := by decide +kernel
theorem zd28_3 : zop 28 3 = some (.if_icmp .ne 8, 3) := by decide +kernel
theorem zd28_6 : zop 28 6 = some (.iload_n 1, 1) := by decide +kernel
theorem zd28_7 : zop 28 7 = some (.ineg, 1) := by decide +kernel
theorem zd28_8 : zop 28 8 = some (.goto 12, 3) := by decide +kernel
theorem zd28_11 : zop 28 11 = some (.iload_n 1, 1) := by decide +kernel
theorem zd28_12 : zop 28 12 = some (.ifCond .ne 7, 3) := by decide +kernel
theorem zd28_15 : zop 28 15 = some (.iconst 1, 1) := by decide +kernel
theorem zd28_16 : zop 28 16 = some (.goto 4, 3) := by decide +kernel
theorem zd28_19 : zop 28 19 = some (.iconst 0, 1) := by decide +kernel
theorem zd28_20 : zop 28 20 = some (.ireturn, 1) := by decide +kernel
theorem b28_0 {x : zXs} {F : zF} (hF : zSh F) {d : Nat} {V : Nat → Nat → Int32} {T : Nat → Nat → Int64} {Q : Option Value → zG → Prop} {l0 : Int32} {o1 : Option Value}   (kt : ¬ l0 = (Int32.ofInt 6) → E x F d 28 11 [some (.int l0), o1] [] (V, T) Q) (kf : ¬ (¬ l0 = (Int32.ofInt 6)) → E x F d 28 6 [some (.int l0), o1] [] (V, T) Q) : E x F d 28 0 [some (.int l0), o1] [] (V, T) Q := by
  refine e_iload_n zd28_0 rfl ?_
  refine e_bipush zd28_1 (v := Int32.ofInt 6) (by decide +kernel) ?_
  exact e_icmp_ne zd28_3 (tg := 11) rfl kt kf
theorem b28_6 {x : zXs} {F : zF} (hF : zSh F) {d : Nat} {V : Nat → Nat → Int32} {T : Nat → Nat → Int64} {Q : Option Value → zG → Prop} {o0 : Option Value} {l1 : Int32}   (k : E x F d 28 20 [o0, some (.int l1)] [.int (-l1)] (V, T) Q) : E x F d 28 6 [o0, some (.int l1)] [] (V, T) Q := by
  refine e_iload_n zd28_6 rfl ?_
  refine e_ineg zd28_7 ?_
  exact e_goto zd28_8 (tg := 20) rfl k
theorem b28_11 {x : zXs} {F : zF} (hF : zSh F) {d : Nat} {V : Nat → Nat → Int32} {T : Nat → Nat → Int64} {Q : Option Value → zG → Prop} {o0 : Option Value} {l1 : Int32}   (kt : ¬ l1 = 0 → E x F d 28 19 [o0, some (.int l1)] [] (V, T) Q) (kf : ¬ (¬ l1 = 0) → E x F d 28 15 [o0, some (.int l1)] [] (V, T) Q) : E x F d 28 11 [o0, some (.int l1)] [] (V, T) Q := by
  refine e_iload_n zd28_11 rfl ?_
  exact e_if_ne zd28_12 (tg := 19) rfl kt kf
theorem b28_15 {x : zXs} {F : zF} (hF : zSh F) {d : Nat} {V : Nat → Nat → Int32} {T : Nat → Nat → Int64} {Q : Option Value → zG → Prop} {o0 : Option Value} {o1 : Option Value}   (k : E x F d 28 20 [o0, o1] [.int (Int32.ofInt 1)] (V, T) Q) : E x F d 28 15 [o0, o1] [] (V, T) Q := by
  refine e_iconst zd28_15 ?_
  exact e_goto zd28_16 (tg := 20) rfl k
theorem b28_19 {x : zXs} {F : zF} (hF : zSh F) {d : Nat} {V : Nat → Nat → Int32} {T : Nat → Nat → Int64} {Q : Option Value → zG → Prop} {o0 : Option Value} {o1 : Option Value}   (k : E x F d 28 20 [o0, o1] [.int (Int32.ofInt 0)] (V, T) Q) : E x F d 28 19 [o0, o1] [] (V, T) Q := by
  refine e_iconst zd28_19 ?_
  exact k
theorem b28_20 {x : zXs} {F : zF} (hF : zSh F) {d : Nat} {V : Nat → Nat → Int32} {T : Nat → Nat → Int64} {Q : Option Value → zG → Prop} {o0 : Option Value} {o1 : Option Value} {s0 : Int32}   (k : Q (some (.int s0)) (V, T)) : E x F d 28 20 [o0, o1] [.int s0] (V, T) Q := by
  exact e_ireti zd28_20 zs28 k
theorem zd29_0 : zop 29 0 = some (.iload_n 0, 1) := by decide +kernel
theorem zd29_1 : zop 29 1 = some (.tableswitch 97 8 13 #[39, 53, 67, 78, 89, 93], 39) := by decide +kernel
theorem zd29_40 : zop 29 40 = some (.iload_n 1, 1) := by decide +kernel
theorem zd29_41 : zop 29 41 = some (.ifCond .ne 7, 3) := by decide +kernel
theorem zd29_44 : zop 29 44 = some (.iload_n 2, 1) := by decide +kernel
theorem zd29_45 : zop 29 45 = some (.ifCond .eq 7, 3) := by decide +kernel
theorem zd29_48 : zop 29 48 = some (.iconst 1, 1) := by decide +kernel
theorem zd29_49 : zop 29 49 = some (.goto 4, 3) := by decide +kernel
theorem zd29_52 : zop 29 52 = some (.iconst 0, 1) := by decide +kernel
theorem zd29_53 : zop 29 53 = some (.ireturn, 1) := by decide +kernel
theorem zd29_54 : zop 29 54 = some (.iload_n 1, 1) := by decide +kernel
theorem zd29_55 : zop 29 55 = some (.ifCond .eq 11, 3) := by decide +kernel
theorem zd29_58 : zop 29 58 = some (.iload_n 2, 1) := by decide +kernel
theorem zd29_59 : zop 29 59 = some (.ifCond .eq 7, 3) := by decide +kernel
theorem zd29_62 : zop 29 62 = some (.iconst 1, 1) := by decide +kernel
theorem zd29_63 : zop 29 63 = some (.goto 4, 3) := by decide +kernel
theorem zd29_66 : zop 29 66 = some (.iconst 0, 1) := by decide +kernel
theorem zd29_67 : zop 29 67 = some (.ireturn, 1) := by decide +kernel
theorem zd29_68 : zop 29 68 = some (.iload_n 1, 1) := by decide +kernel
theorem zd29_69 : zop 29 69 = some (.iload_n 2, 1) := by decide +kernel
theorem zd29_70 : zop 29 70 = some (.if_icmp .ge 7, 3) := by decide +kernel
theorem zd29_73 : zop 29 73 = some (.iconst 1, 1) := by decide +kernel
theorem zd29_74 : zop 29 74 = some (.goto 4, 3) := by decide +kernel
theorem zd29_77 : zop 29 77 = some (.iconst 0, 1) := by decide +kernel
theorem zd29_78 : zop 29 78 = some (.ireturn, 1) := by decide +kernel
theorem zd29_79 : zop 29 79 = some (.iload_n 1, 1) := by decide +kernel
theorem zd29_80 : zop 29 80 = some (.iload_n 2, 1) := by decide +kernel
theorem zd29_81 : zop 29 81 = some (.if_icmp .ne 7, 3) := by decide +kernel
theorem zd29_84 : zop 29 84 = some (.iconst 1, 1) := by decide +kernel
theorem zd29_85 : zop 29 85 = some (.goto 4, 3) := by decide +kernel
theorem zd29_88 : zop 29 88 = some (.iconst 0, 1) := by decide +kernel
theorem zd29_89 : zop 29 89 = some (.ireturn, 1) := by decide +kernel
theorem zd29_90 : zop 29 90 = some (.iload_n 1, 1) := by decide +kernel
theorem zd29_91 : zop 29 91 = some (.iload_n 2, 1) := by decide +kernel
theorem zd29_92 : zop 29 92 = some (.iadd, 1) := by decide +kernel
theorem zd29_93 : zop 29 93 = some (.ireturn, 1) := by decide +kernel
theorem zd29_94 : zop 29 94 = some (.iload_n 1, 1) := by decide +kernel
theorem zd29_95 : zop 29 95 = some (.iload_n 2, 1) := by decide +kernel
theorem zd29_96 : zop 29 96 = some (.isub, 1) := by decide +kernel
theorem zd29_97 : zop 29 97 = some (.ireturn, 1) := by decide +kernel
theorem zd29_98 : zop 29 98 = some (.iload_n 1, 1) := by decide +kernel
theorem zd29_99 : zop 29 99 = some (.iload_n 2, 1) := by decide +kernel
theorem zd29_100 : zop 29 100 = some (.imul, 1) := by decide +kernel
theorem zd29_101 : zop 29 101 = some (.ireturn, 1) := by decide +kernel
theorem b29_0 {x : zXs} {F : zF} (hF : zSh F) {d : Nat} {V : Nat → Nat → Int32} {T : Nat → Nat → Int64} {Q : Option Value → zG → Prop} {l0 : Int32} {o1 : Option Value} {o2 : Option Value}   (k0 : l0 = Int32.ofInt 8 → E x F d 29 40 [some (.int l0), o1, o2] [] (V, T) Q) (k1 : l0 = Int32.ofInt 9 → E x F d 29 54 [some (.int l0), o1, o2] [] (V, T) Q) (k2 : l0 = Int32.ofInt 10 → E x F d 29 68 [some (.int l0), o1, o2] [] (V, T) Q) (k3 : l0 = Int32.ofInt 11 → E x F d 29 79 [some (.int l0), o1, o2] [] (V, T) Q) (k4 : l0 = Int32.ofInt 12 → E x F d 29 90 [some (.int l0), o1, o2] [] (V, T) Q) (k5 : l0 = Int32.ofInt 13 → E x F d 29 94 [some (.int l0), o1, o2] [] (V, T) Q) (kd : ¬ l0 = Int32.ofInt 8 ∧ ¬ l0 = Int32.ofInt 9 ∧ ¬ l0 = Int32.ofInt 10 ∧ ¬ l0 = Int32.ofInt 11 ∧ ¬ l0 = Int32.ofInt 12 ∧ ¬ l0 = Int32.ofInt 13 → E x F d 29 98 [some (.int l0), o1, o2] [] (V, T) Q) : E x F d 29 0 [some (.int l0), o1, o2] [] (V, T) Q := by
  refine e_iload_n zd29_0 rfl ?_
  by_cases c0 : l0 = Int32.ofInt 8
  · exact e_tableIn zd29_1 (off := 39) (by rw [c0]; decide +kernel) (by rw [c0]; decide +kernel) (tg := 40) rfl (k0 c0)
  by_cases c1 : l0 = Int32.ofInt 9
  · exact e_tableIn zd29_1 (off := 53) (by rw [c1]; decide +kernel) (by rw [c1]; decide +kernel) (tg := 54) rfl (k1 c1)
  by_cases c2 : l0 = Int32.ofInt 10
  · exact e_tableIn zd29_1 (off := 67) (by rw [c2]; decide +kernel) (by rw [c2]; decide +kernel) (tg := 68) rfl (k2 c2)
  by_cases c3 : l0 = Int32.ofInt 11
  · exact e_tableIn zd29_1 (off := 78) (by rw [c3]; decide +kernel) (by rw [c3]; decide +kernel) (tg := 79) rfl (k3 c3)
  by_cases c4 : l0 = Int32.ofInt 12
  · exact e_tableIn zd29_1 (off := 89) (by rw [c4]; decide +kernel) (by rw [c4]; decide +kernel) (tg := 90) rfl (k4 c4)
  by_cases c5 : l0 = Int32.ofInt 13
  · exact e_tableIn zd29_1 (off := 93) (by rw [c5]; decide +kernel) (by rw [c5]; decide +kernel) (tg := 94) rfl (k5 c5)
  exact e_tableOut zd29_1 (zsw_out (lo := 8) (hi := 13) (by decide) (by decide) (fun v h1 h2 h => by
    rcases (show v = 8 ∨ v = 9 ∨ v = 10 ∨ v = 11 ∨ v = 12 ∨ v = 13 by omega) with rfl | rfl | rfl | rfl | rfl | rfl
    · exact c0 h
    · exact c1 h
    · exact c2 h
    · exact c3 h
    · exact c4 h
    · exact c5 h)) (tg := 98) rfl (kd ⟨c0, c1, c2, c3, c4, c5⟩)
theorem b29_40 {x : zXs} {F : zF} (hF : zSh F) {d : Nat} {V : Nat → Nat → Int32} {T : Nat → Nat → Int64} {Q : Option Value → zG → Prop} {o0 : Option Value} {l1 : Int32} {o2 : Option Value}   (kt : ¬ l1 = 0 → E x F d 29 48 [o0, some (.int l1), o2] [] (V, T) Q) (kf : ¬ (¬ l1 = 0) → E x F d 29 44 [o0, some (.int l1), o2] [] (V, T) Q) : E x F d 29 40 [o0, some (.int l1), o2] [] (V, T) Q := by
  refine e_iload_n zd29_40 rfl ?_
  exact e_if_ne zd29_41 (tg := 48) rfl kt kf
theorem b29_44 {x : zXs} {F : zF} (hF : zSh F) {d : Nat} {V : Nat → Nat → Int32} {T : Nat → Nat → Int64} {Q : Option Value → zG → Prop} {o0 : Option Value} {o1 : Option Value} {l2 : Int32}   (kt : l2 = 0 → E x F d 29 52 [o0, o1, some (.int l2)] [] (V, T) Q) (kf : ¬ (l2 = 0) → E x F d 29 48 [o0, o1, some (.int l2)] [] (V, T) Q) : E x F d 29 44 [o0, o1, some (.int l2)] [] (V, T) Q := by
  refine e_iload_n zd29_44 rfl ?_
  exact e_if_eq zd29_45 (tg := 52) rfl kt kf
theorem b29_48 {x : zXs} {F : zF} (hF : zSh F) {d : Nat} {V : Nat → Nat → Int32} {T : Nat → Nat → Int64} {Q : Option Value → zG → Prop} {o0 : Option Value} {o1 : Option Value} {o2 : Option Value}   (k : E x F d 29 53 [o0, o1, o2] [.int (Int32.ofInt 1)] (V, T) Q) : E x F d 29 48 [o0, o1, o2] [] (V, T) Q := by
  refine e_iconst zd29_48 ?_
  exact e_goto zd29_49 (tg := 53) rfl k
theorem b29_52 {x : zXs} {F : zF} (hF : zSh F) {d : Nat} {V : Nat → Nat → Int32} {T : Nat → Nat → Int64} {Q : Option Value → zG → Prop} {o0 : Option Value} {o1 : Option Value} {o2 : Option Value}   (k : E x F d 29 53 [o0, o1, o2] [.int (Int32.ofInt 0)] (V, T) Q) : E x F d 29 52 [o0, o1, o2] [] (V, T) Q := by
  refine e_iconst zd29_52 ?_
  exact k
theorem b29_53 {x : zXs} {F : zF} (hF : zSh F) {d : Nat} {V : Nat → Nat → Int32} {T : Nat → Nat → Int64} {Q : Option Value → zG → Prop} {o0 : Option Value} {o1 : Option Value} {o2 : Option Value} {s0 : Int32}   (k : Q (some (.int s0)) (V, T)) : E x F d 29 53 [o0, o1, o2] [.int s0] (V, T) Q := by
  exact e_ireti zd29_53 zs29 k
theorem b29_54 {x : zXs} {F : zF} (hF : zSh F) {d : Nat} {V : Nat → Nat → Int32} {T : Nat → Nat → Int64} {Q : Option Value → zG → Prop} {o0 : Option Value} {l1 : Int32} {o2 : Option Value}   (kt : l1 = 0 → E x F d 29 66 [o0, some (.int l1), o2] [] (V, T) Q) (kf : ¬ (l1 = 0) → E x F d 29 58 [o0, some (.int l1), o2] [] (V, T) Q) : E x F d 29 54 [o0, some (.int l1), o2] [] (V, T) Q := by
  refine e_iload_n zd29_54 rfl ?_
  exact e_if_eq zd29_55 (tg := 66) rfl kt kf
theorem b29_58 {x : zXs} {F : zF} (hF : zSh F) {d : Nat} {V : Nat → Nat → Int32} {T : Nat → Nat → Int64} {Q : Option Value → zG → Prop} {o0 : Option Value} {o1 : Option Value} {l2 : Int32}   (kt : l2 = 0 → E x F d 29 66 [o0, o1, some (.int l2)] [] (V, T) Q) (kf : ¬ (l2 = 0) → E x F d 29 62 [o0, o1, some (.int l2)] [] (V, T) Q) : E x F d 29 58 [o0, o1, some (.int l2)] [] (V, T) Q := by
  refine e_iload_n zd29_58 rfl ?_
  exact e_if_eq zd29_59 (tg := 66) rfl kt kf
theorem b29_62 {x : zXs} {F : zF} (hF : zSh F) {d : Nat} {V : Nat → Nat → Int32} {T : Nat → Nat → Int64} {Q : Option Value → zG → Prop} {o0 : Option Value} {o1 : Option Value} {o2 : Option Value}   (k : E x F d 29 67 [o0, o1, o2] [.int (Int32.ofInt 1)] (V, T) Q) : E x F d 29 62 [o0, o1, o2] [] (V, T) Q := by
  refine e_iconst zd29_62 ?_
  exact e_goto zd29_63 (tg := 67) rfl k
theorem b29_66 {x : zXs} {F : zF} (hF : zSh F) {d : Nat} {V : Nat → Nat → Int32} {T : Nat → Nat → Int64} {Q : Option Value → zG → Prop} {o0 : Option Value} {o1 : Option Value} {o2 : Option Value}   (k : E x F d 29 67 [o0, o1, o2] [.int (Int32.ofInt 0)] (V, T) Q) : E x F d 29 66 [o0, o1, o2] [] (V, T) Q := by
  refine e_iconst zd29_66 ?_
  exact k
theorem b29_67 {x : zXs} {F : zF} (hF : zSh F) {d : Nat} {V : Nat → Nat → Int32} {T : Nat → Nat → Int64} {Q : Option Value → zG → Prop} {o0 : Option Value} {o1 : Option Value} {o2 : Option Value} {s0 : Int32}   (k : Q (some (.int s0)) (V, T)) : E x F d 29 67 [o0, o1, o2] [.int s0] (V, T) Q := by
  exact e_ireti zd29_67 zs29 k
theorem b29_68 {x : zXs} {F : zF} (hF : zSh F) {d : Nat} {V : Nat → Nat → Int32} {T : Nat → Nat → Int64} {Q : Option Value → zG → Prop} {o0 : Option Value} {l1 : Int32} {l2 : Int32}   (kt : l2 ≤ l1 → E x F d 29 77 [o0, some (.int l1), some (.int l2)] [] (V, T) Q) (kf : ¬ (l2 ≤ l1) → E x F d 29 73 [o0, some (.int l1), some (.int l2)] [] (V, T) Q) : E x F d 29 68 [o0, some (.int l1), some (.int l2)] [] (V, T) Q := by
  refine e_iload_n zd29_68 rfl ?_
  refine e_iload_n zd29_69 rfl ?_
  exact e_icmp_ge zd29_70 (tg := 77) rfl kt kf
theorem b29_73 {x : zXs} {F : zF} (hF : zSh F) {d : Nat} {V : Nat → Nat → Int32} {T : Nat → Nat → Int64} {Q : Option Value → zG → Prop} {o0 : Option Value} {o1 : Option Value} {o2 : Option Value}   (k : E x F d 29 78 [o0, o1, o2] [.int (Int32.ofInt 1)] (V, T) Q) : E x F d 29 73 [o0, o1, o2] [] (V, T) Q := by
  refine e_iconst zd29_73 ?_
  exact e_goto zd29_74 (tg := 78) rfl k
theorem b29_77 {x : zXs} {F : zF} (hF : zSh F) {d : Nat} {V : Nat → Nat → Int32} {T : Nat → Nat → Int64} {Q : Option Value → zG → Prop} {o0 : Option Value} {o1 : Option Value} {o2 : Option Value}   (k : E x F d 29 78 [o0, o1, o2] [.int (Int32.ofInt 0)] (V, T) Q) : E x F d 29 77 [o0, o1, o2] [] (V, T) Q := by
  refine e_iconst zd29_77 ?_
  exact k
theorem b29_78 {x : zXs} {F : zF} (hF : zSh F) {d : Nat} {V : Nat → Nat → Int32} {T : Nat → Nat → Int64} {Q : Option Value → zG → Prop} {o0 : Option Value} {o1 : Option Value} {o2 : Option Value} {s0 : Int32}   (k : Q (some (.int s0)) (V, T)) : E x F d 29 78 [o0, o1, o2] [.int s0] (V, T) Q := by
  exact e_ireti zd29_78 zs29 k
theorem b29_79 {x : zXs} {F : zF} (hF : zSh F) {d : Nat} {V : Nat → Nat → Int32} {T : Nat → Nat → Int64} {Q : Option Value → zG → Prop} {o0 : Option Value} {l1 : Int32} {l2 : Int32}   (kt : ¬ l1 = l2 → E x F d 29 88 [o0, some (.int l1), some (.int l2)] [] (V, T) Q) (kf : ¬ (¬ l1 = l2) → E x F d 29 84 [o0, some (.int l1), some (.int l2)] [] (V, T) Q) : E x F d 29 79 [o0, some (.int l1), some (.int l2)] [] (V, T) Q := by
  refine e_iload_n zd29_79 rfl ?_
  refine e_iload_n zd29_80 rfl ?_
  exact e_icmp_ne zd29_81 (tg := 88) rfl kt kf
theorem b29_84 {x : zXs} {F : zF} (hF : zSh F) {d : Nat} {V : Nat → Nat → Int32} {T : Nat → Nat → Int64} {Q : Option Value → zG → Prop} {o0 : Option Value} {o1 : Option Value} {o2 : Option Value}   (k : E x F d 29 89 [o0, o1, o2] [.int (Int32.ofInt 1)] (V, T) Q) : E x F d 29 84 [o0, o1, o2] [] (V, T) Q := by
  refine e_iconst zd29_84 ?_
  exact e_goto zd29_85 (tg := 89) rfl k
theorem b29_88 {x : zXs} {F : zF} (hF : zSh F) {d : Nat} {V : Nat → Nat → Int32} {T : Nat → Nat → Int64} {Q : Option Value → zG → Prop} {o0 : Option Value} {o1 : Option Value} {o2 : Option Value}   (k : E x F d 29 89 [o0, o1, o2] [.int (Int32.ofInt 0)] (V, T) Q) : E x F d 29 88 [o0, o1, o2] [] (V, T) Q := by
  refine e_iconst zd29_88 ?_
  exact k
theorem b29_89 {x : zXs} {F : zF} (hF : zSh F) {d : Nat} {V : Nat → Nat → Int32} {T : Nat → Nat → Int64} {Q : Option Value → zG → Prop} {o0 : Option Value} {o1 : Option Value} {o2 : Option Value} {s0 : Int32}   (k : Q (some (.int s0)) (V, T)) : E x F d 29 89 [o0, o1, o2] [.int s0] (V, T) Q := by
  exact e_ireti zd29_89 zs29 k
theorem b29_90 {x : zXs} {F : zF} (hF : zSh F) {d : Nat} {V : Nat → Nat → Int32} {T : Nat → Nat → Int64} {Q : Option Value → zG → Prop} {o0 : Option Value} {l1 : Int32} {l2 : Int32}   (k : Q (some (.int (l1 + l2))) (V, T)) : E x F d 29 90 [o0, some (.int l1), some (.int l2)] [] (V, T) Q := by
  refine e_iload_n zd29_90 rfl ?_
  refine e_iload_n zd29_91 rfl ?_
  refine e_iadd zd29_92 ?_
  exact e_ireti zd29_93 zs29 k
theorem b29_94 {x : zXs} {F : zF} (hF : zSh F) {d : Nat} {V : Nat → Nat → Int32} {T : Nat → Nat → Int64} {Q : Option Value → zG → Prop} {o0 : Option Value} {l1 : Int32} {l2 : Int32}   (k : Q (some (.int (l1 - l2))) (V, T)) : E x F d 29 94 [o0, some (.int l1), some (.int l2)] [] (V, T) Q := by
  refine e_iload_n zd29_94 rfl ?_
  refine e_iload_n zd29_95 rfl ?_
  refine e_isub zd29_96 ?_
  exact e_ireti zd29_97 zs29 k
theorem b29_98 {x : zXs} {F : zF} (hF : zSh F) {d : Nat} {V : Nat → Nat → Int32} {T : Nat → Nat → Int64} {Q : Option Value → zG → Prop} {o0 : Option Value} {l1 : Int32} {l2 : Int32}   (k : Q (some (.int (l1 * l2))) (V, T)) : E x F d 29 98 [o0, some (.int l1), some (.int l2)] [] (V, T) Q := by
  refine e_iload_n zd29_98 rfl ?_
  refine e_iload_n zd29_99 rfl ?_
  refine e_imul zd29_100 ?_
  exact e_ireti zd29_101 zs29 k
theorem zd30_0 : zop 30 0 = some (.iload_n 0, 1) := by decide +kernel
theorem zd30_1 : zop 30 1 = some (.iload_n 1, 1) := by decide +kernel
theorem zd30_2 : zop 30 2 = some (.if_icmp .ge 7, 3) := by decide +kernel
theorem zd30_5 : zop 30 5 = some (.iload_n 1, 1) := by decide +kernel
theorem zd30_6 : zop 30 6 = some (.goto 13, 3) := by decide +kernel
theorem zd30_9 : zop 30 9 = some (.iload_n 0, 1) := by decide +kernel
theorem zd30_10 : zop 30 10 = some (.iload_n 2, 1) := by decide +kernel
theorem zd30_11 : zop 30 11 = some (.if_icmp .le 7, 3) := by decide +kernel
theorem zd30_14 : zop 30 14 = some (.iload_n 2, 1) := by decide +kernel
theorem zd30_15 : zop 30 15 = some (.goto 4, 3) := by decide +kernel
theorem zd30_18 : zop 30 18 = some (.iload_n 0, 1) := by decide +kernel
theorem zd30_19 : zop 30 19 = some (.ireturn, 1) := by decide +kernel
theorem b30_0 {x : zXs} {F : zF} (hF : zSh F) {d : Nat} {V : Nat → Nat → Int32} {T : Nat → Nat → Int64} {Q : Option Value → zG → Prop} {l0 : Int32} {l1 : Int32} {o2 : Option Value}   (kt : l1 ≤ l0 → E x F d 30 9 [some (.int l0), some (.int l1), o2] [] (V, T) Q) (kf : ¬ (l1 ≤ l0) → E x F d 30 5 [some (.int l0), some (.int l1), o2] [] (V, T) Q) : E x F d 30 0 [some (.int l0), some (.int l1), o2] [] (V, T) Q := by
  refine e_iload_n zd30_0 rfl ?_
  refine e_iload_n zd30_1 rfl ?_
  exact e_icmp_ge zd30_2 (tg := 9) rfl kt kf
theorem b30_5 {x : zXs} {F : zF} (hF : zSh F) {d : Nat} {V : Nat → Nat → Int32} {T : Nat → Nat → Int64} {Q : Option Value → zG → Prop} {o0 : Option Value} {l1 : Int32} {o2 : Option Value}   (k : E x F d 30 19 [o0, some (.int l1), o2] [.int l1] (V, T) Q) : E x F d 30 5 [o0, some (.int l1), o2] [] (V, T) Q := by
  refine e_iload_n zd30_5 rfl ?_
  exact e_goto zd30_6 (tg := 19) rfl k
theorem b30_9 {x : zXs} {F : zF} (hF : zSh F) {d : Nat} {V : Nat → Nat → Int32} {T : Nat → Nat → Int64} {Q : Option Value → zG → Prop} {l0 : Int32} {o1 : Option Value} {l2 : Int32}   (kt : l0 ≤ l2 → E x F d 30 18 [some (.int l0), o1, some (.int l2)] [] (V, T) Q) (kf : ¬ (l0 ≤ l2) → E x F d 30 14 [some (.int l0), o1, some (.int l2)] [] (V, T) Q) : E x F d 30 9 [some (.int l0), o1, some (.int l2)] [] (V, T) Q := by
  refine e_iload_n zd30_9 rfl ?_
  refine e_iload_n zd30_10 rfl ?_
  exact e_icmp_le zd30_11 (tg := 18) rfl kt kf
theorem b30_14 {x : zXs} {F : zF} (hF : zSh F) {d : Nat} {V : Nat → Nat → Int32} {T : Nat → Nat → Int64} {Q : Option Value → zG → Prop} {o0 : Option Value} {o1 : Option Value} {l2 : Int32}   (k : E x F d 30 19 [o0, o1, some (.int l2)] [.int l2] (V, T) Q) : E x F d 30 14 [o0, o1, some (.int l2)] [] (V, T) Q := by
  refine e_iload_n zd30_14 rfl ?_
  exact e_goto zd30_15 (tg := 19) rfl k
theorem b30_18 {x : zXs} {F : zF} (hF : zSh F) {d : Nat} {V : Nat → Nat → Int32} {T : Nat → Nat → Int64} {Q : Option Value → zG → Prop} {l0 : Int32} {o1 : Option Value} {o2 : Option Value}   (k : E x F d 30 19 [some (.int l0), o1, o2] [.int l0] (V, T) Q) : E x F d 30 18 [some (.int l0), o1, o2] [] (V, T) Q := by
  refine e_iload_n zd30_18 rfl ?_
  exact k
theorem b30_19 {x : zXs} {F : zF} (hF : zSh F) {d : Nat} {V : Nat → Nat → Int32} {T : Nat → Nat → Int64} {Q : Option Value → zG → Prop} {o0 : Option Value} {o1 : Option Value} {o2 : Option Value} {s0 : Int32}   (k : Q (some (.int s0)) (V, T)) : E x F d 30 19 [o0, o1, o2] [.int s0] (V, T) Q := by
  exact e_ireti zd30_19 zs30 k
theorem zd31_0 : zop 31 0 = some (.iload_n 2, 1) := by decide +kernel
theorem zd31_1 : zop 31 1 = some (.tableswitch 82 5 9 #[35, 45, 55, 64, 73], 35) := by decide +kernel
theorem zd31_36 : zop 31 36 = some (.aload_n 0, 1) := by decide +kernel
theorem zd31_37 : zop 31 37 = some (.getfield 10, 3) := by decide +kernel
theorem zd31_40 : zop 31 40 = some (.getfield 63, 3) := by decide +kernel
theorem zd31_43 : zop 31 43 = some (.iload_n 1, 1) := by decide +kernel
theorem zd31_44 : zop 31 44 = some (.iaload, 1) := by decide +kernel
theorem zd31_45 : zop 31 45 = some (.ireturn, 1) := by decide +kernel
theorem zd31_46 : zop 31 46 = some (.aload_n 0, 1) := by decide +kernel
theorem zd31_47 : zop 31 47 = some (.getfield 10, 3) := by decide +kernel
theorem zd31_50 : zop 31 50 = some (.getfield 67, 3) := by decide +kernel
theorem zd31_53 : zop 31 53 = some (.iload_n 1, 1) := by decide +kernel
theorem zd31_54 : zop 31 54 = some (.iaload, 1) := by decide +kernel
theorem zd31_55 : zop 31 55 = some (.ireturn, 1) := by decide +kernel
theorem zd31_56 : zop 31 56 = some (.aload_n 0, 1) := by decide +kernel
theorem zd31_57 : zop 31 57 = some (.getfield 10, 3) := by decide +kernel
theorem zd31_60 : zop 31 60 = some (.iload_n 1, 1) := by decide +kernel
theorem zd31_61 : zop 31 61 = some (.invokevirtual 70, 3) := by decide +kernel
theorem zd31_64 : zop 31 64 = some (.ireturn, 1) := by decide +kernel
theorem zd31_65 : zop 31 65 = some (.aload_n 0, 1) := by decide +kernel
theorem zd31_66 : zop 31 66 = some (.getfield 10, 3) := by decide +kernel
theorem zd31_69 : zop 31 69 = some (.iload_n 1, 1) := by decide +kernel
theorem zd31_70 : zop 31 70 = some (.invokevirtual 111, 3) := by decide +kernel
theorem zd31_73 : zop 31 73 = some (.ireturn, 1) := by decide +kernel
theorem zd31_74 : zop 31 74 = some (.aload_n 0, 1) := by decide +kernel
theorem zd31_75 : zop 31 75 = some (.getfield 10, 3) := by decide +kernel
theorem zd31_78 : zop 31 78 = some (.iload_n 1, 1) := by decide +kernel
theorem zd31_79 : zop 31 79 = some (.invokevirtual 114, 3) := by decide +kernel
theorem zd31_82 : zop 31 82 = some (.ireturn, 1) := by decide +kernel
theorem zd31_83 : zop 31 83 = some (.aload_n 0, 1) := by decide +kernel
theorem zd31_84 : zop 31 84 = some (.getfield 33, 3) := by decide +kernel
theorem zd31_87 : zop 31 87 = some (.aload_n 0, 1) := by decide +kernel
theorem zd31_88 : zop 31 88 = some (.getfield 10, 3) := by decide +kernel
theorem zd31_91 : zop 31 91 = some (.iload_n 1, 1) := by decide +kernel
theorem zd31_92 : zop 31 92 = some (.invokevirtual 117, 3) := by decide +kernel
theorem zd31_95 : zop 31 95 = some (.ireturn, 1) := by decide +kernel
theorem b31_0 {x : zXs} {F : zF} (hF : zSh F) {d : Nat} {V : Nat → Nat → Int32} {T : Nat → Nat → Int64} {Q : Option Value → zG → Prop} {o0 : Option Value} {o1 : Option Value} {l2 : Int32}   (k0 : l2 = Int32.ofInt 5 → E x F d 31 36 [o0, o1, some (.int l2)] [] (V, T) Q) (k1 : l2 = Int32.ofInt 6 → E x F d 31 46 [o0, o1, some (.int l2)] [] (V, T) Q) (k2 : l2 = Int32.ofInt 7 → E x F d 31 56 [o0, o1, some (.int l2)] [] (V, T) Q) (k3 : l2 = Int32.ofInt 8 → E x F d 31 65 [o0, o1, some (.int l2)] [] (V, T) Q) (k4 : l2 = Int32.ofInt 9 → E x F d 31 74 [o0, o1, some (.int l2)] [] (V, T) Q) (kd : ¬ l2 = Int32.ofInt 5 ∧ ¬ l2 = Int32.ofInt 6 ∧ ¬ l2 = Int32.ofInt 7 ∧ ¬ l2 = Int32.ofInt 8 ∧ ¬ l2 = Int32.ofInt 9 → E x F d 31 83 [o0, o1, some (.int l2)] [] (V, T) Q) : E x F d 31 0 [o0, o1, some (.int l2)] [] (V, T) Q := by
  refine e_iload_n zd31_0 rfl ?_
  by_cases c0 : l2 = Int32.ofInt 5
  · exact e_tableIn zd31_1 (off := 35) (by rw [c0]; decide +kernel) (by rw [c0]; decide +kernel) (tg := 36) rfl (k0 c0)
  by_cases c1 : l2 = Int32.ofInt 6
  · exact e_tableIn zd31_1 (off := 45) (by rw [c1]; decide +kernel) (by rw [c1]; decide +kernel) (tg := 46) rfl (k1 c1)
  by_cases c2 : l2 = Int32.ofInt 7
  · exact e_tableIn zd31_1 (off := 55) (by rw [c2]; decide +kernel) (by rw [c2]; decide +kernel) (tg := 56) rfl (k2 c2)
  by_cases c3 : l2 = Int32.ofInt 8
  · exact e_tableIn zd31_1 (off := 64) (by rw [c3]; decide +kernel) (by rw [c3]; decide +kernel) (tg := 65) rfl (k3 c3)
  by_cases c4 : l2 = Int32.ofInt 9
  · exact e_tableIn zd31_1 (off := 73) (by rw [c4]; decide +kernel) (by rw [c4]; decide +kernel) (tg := 74) rfl (k4 c4)
  exact e_tableOut zd31_1 (zsw_out (lo := 5) (hi := 9) (by decide) (by decide) (fun v h1 h2 h => by
    rcases (show v = 5 ∨ v = 6 ∨ v = 7 ∨ v = 8 ∨ v = 9 by omega) with rfl | rfl | rfl | rfl | rfl
    · exact c0 h
    · exact c1 h
    · exact c2 h
    · exact c3 h
    · exact c4 h)) (tg := 83) rfl (kd ⟨c0, c1, c2, c3, c4⟩)
theorem b31_36 {x : zXs} {F : zF} (hF : zSh F) {d : Nat} {V : Nat → Nat → Int32} {T : Nat → Nat → Int64} {Q : Option Value → zG → Prop} {l1 : Int32} {o2 : Option Value}  {i1 : Nat} (e1 : l1 = nI i1) (h1 : i1 < 4) (k : Q (some (.int (V 2 i1))) (V, T)) : E x F d 31 36 [some (.ref 0), some (.int l1), o2] [] (V, T) Q := by
  refine e_aload_n zd31_36 rfl rfl ?_
  refine e_getO zd31_37 (own := 7) (ci := 7) (kf := 0) (w := 297) (by decide +kernel) (by decide +kernel) (zsh_at hF rfl).1 (by decide +kernel) rfl (zrf_at hF (i := 0) rfl) ?_
  refine e_getA zd31_40 (own := 7) (ci := 4) (kf := 0) (w := 111) (by decide +kernel) (by decide +kernel) (zsh_at hF rfl).1 (by decide +kernel) rfl (zrf_at hF (i := 8) rfl) ?_
  refine e_iload_n zd31_43 rfl ?_
  refine e_iald zd31_44 (i := i1) (zsh_at hF rfl) e1 h1 (by omega) ?_
  exact e_ireti zd31_45 zs31 k
theorem b31_46 {x : zXs} {F : zF} (hF : zSh F) {d : Nat} {V : Nat → Nat → Int32} {T : Nat → Nat → Int64} {Q : Option Value → zG → Prop} {l1 : Int32} {o2 : Option Value}  {i1 : Nat} (e1 : l1 = nI i1) (h1 : i1 < 4) (k : Q (some (.int (V 3 i1))) (V, T)) : E x F d 31 46 [some (.ref 0), some (.int l1), o2] [] (V, T) Q := by
  refine e_aload_n zd31_46 rfl rfl ?_
  refine e_getO zd31_47 (own := 7) (ci := 7) (kf := 0) (w := 297) (by decide +kernel) (by decide +kernel) (zsh_at hF rfl).1 (by decide +kernel) rfl (zrf_at hF (i := 0) rfl) ?_
  refine e_getA zd31_50 (own := 7) (ci := 4) (kf := 1) (w := 114) (by decide +kernel) (by decide +kernel) (zsh_at hF rfl).1 (by decide +kernel) rfl (zrf_at hF (i := 9) rfl) ?_
  refine e_iload_n zd31_53 rfl ?_
  refine e_iald zd31_54 (i := i1) (zsh_at hF rfl) e1 h1 (by omega) ?_
  exact e_ireti zd31_55 zs31 k
theorem b31_56 {x : zXs} {F : zF} (hF : zSh F) {d : Nat} {V : Nat → Nat → Int32} {T : Nat → Nat → Int64} {Q : Option Value → zG → Prop} {l1 : Int32} {o2 : Option Value}   (k : E x F d 13 0 [some (.ref 1), some (.int l1)] [] (V, T) (fun r G' => E x F (d + 1) 31 64 [some (.ref 0), some (.int l1), o2] (r.toList ++ []) G' Q)) : E x F (d + 1) 31 56 [some (.ref 0), some (.int l1), o2] [] (V, T) Q := by
  refine e_aload_n zd31_56 rfl rfl ?_
  refine e_getO zd31_57 (own := 7) (ci := 7) (kf := 0) (w := 297) (by decide +kernel) (by decide +kernel) (zsh_at hF rfl).1 (by decide +kernel) rfl (zrf_at hF (i := 0) rfl) ?_
  refine e_iload_n zd31_60 rfl ?_
  exact e_callV zd31_61 (own := 7) (nest := false) (w := 335) (by decide +kernel) (by decide +kernel) zs13 (as := [.int l1]) (rest := []) rfl rfl (zsh_at hF rfl).1 (by omega) (Nat.le_of_ble_eq_true rfl) rfl rfl rfl (by omega) k
theorem b31_64 {x : zXs} {F : zF} (hF : zSh F) {d : Nat} {V : Nat → Nat → Int32} {T : Nat → Nat → Int64} {Q : Option Value → zG → Prop} {o0 : Option Value} {o1 : Option Value} {o2 : Option Value} {s0 : Int32}   (k : Q (some (.int s0)) (V, T)) : E x F d 31 64 [o0, o1, o2] [.int s0] (V, T) Q := by
  exact e_ireti zd31_64 zs31 k
theorem b31_65 {x : zXs} {F : zF} (hF : zSh F) {d : Nat} {V : Nat → Nat → Int32} {T : Nat → Nat → Int64} {Q : Option Value → zG → Prop} {l1 : Int32} {o2 : Option Value}   (k : E x F d 32 0 [some (.ref 1), some (.int l1), none, none] [] (V, T) (fun r G' => E x F (d + 1) 31 73 [some (.ref 0), some (.int l1), o2] (r.toList ++ []) G' Q)) : E x F (d + 1) 31 65 [some (.ref 0), some (.int l1), o2] [] (V, T) Q := by
  refine e_aload_n zd31_65 rfl rfl ?_
  refine e_getO zd31_66 (own := 7) (ci := 7) (kf := 0) (w := 297) (by decide +kernel) (by decide +kernel) (zsh_at hF rfl).1 (by decide +kernel) rfl (zrf_at hF (i := 0) rfl) ?_
  refine e_iload_n zd31_69 rfl ?_
  exact e_callV zd31_70 (own := 7) (nest := false) (w := 411) (by decide +kernel) (by decide +kernel) zs32 (as := [.int l1]) (rest := []) rfl rfl (zsh_at hF rfl).1 (by omega) (Nat.le_of_ble_eq_true rfl) rfl rfl rfl (by omega) k
theorem b31_73 {x : zXs} {F : zF} (hF : zSh F) {d : Nat} {V : Nat → Nat → Int32} {T : Nat → Nat → Int64} {Q : Option Value → zG → Prop} {o0 : Option Value} {o1 : Option Value} {o2 : Option Value} {s0 : Int32}   (k : Q (some (.int s0)) (V, T)) : E x F d 31 73 [o0, o1, o2] [.int s0] (V, T) Q := by
  exact e_ireti zd31_73 zs31 k
theorem b31_74 {x : zXs} {F : zF} (hF : zSh F) {d : Nat} {V : Nat → Nat → Int32} {T : Nat → Nat → Int64} {Q : Option Value → zG → Prop} {l1 : Int32} {o2 : Option Value}   (k : E x F d 33 0 [some (.ref 1), some (.int l1), none, none, none] [] (V, T) (fun r G' => E x F (d + 1) 31 82 [some (.ref 0), some (.int l1), o2] (r.toList ++ []) G' Q)) : E x F (d + 1) 31 74 [some (.ref 0), some (.int l1), o2] [] (V, T) Q := by
  refine e_aload_n zd31_74 rfl rfl ?_
  refine e_getO zd31_75 (own := 7) (ci := 7) (kf := 0) (w := 297) (by decide +kernel) (by decide +kernel) (zsh_at hF rfl).1 (by decide +kernel) rfl (zrf_at hF (i := 0) rfl) ?_
  refine e_iload_n zd31_78 rfl ?_
  exact e_callV zd31_79 (own := 7) (nest := false) (w := 415) (by decide +kernel) (by decide +kernel) zs33 (as := [.int l1]) (rest := []) rfl rfl (zsh_at hF rfl).1 (by omega) (Nat.le_of_ble_eq_true rfl) rfl rfl rfl (by omega) k
theorem b31_82 {x : zXs} {F : zF} (hF : zSh F) {d : Nat} {V : Nat → Nat → Int32} {T : Nat → Nat → Int64} {Q : Option Value → zG → Prop} {o0 : Option Value} {o1 : Option Value} {o2 : Option Value} {s0 : Int32}   (k : Q (some (.int s0)) (V, T)) : E x F d 31 82 [o0, o1, o2] [.int s0] (V, T) Q := by
  exact e_ireti zd31_82 zs31 k
theorem b31_83 {x : zXs} {F : zF} (hF : zSh F) {d : Nat} {V : Nat → Nat → Int32} {T : Nat → Nat → Int64} {Q : Option Value → zG → Prop} {l1 : Int32} {o2 : Option Value}   (k : E x F d 35 0 [some (.ref 20), some (.ref 1), some (.int l1)] [] (V, T) (fun r G' => E x F (d + 1) 31 95 [some (.ref 0), some (.int l1), o2] (r.toList ++ []) G' Q)) : E x F (d + 1) 31 83 [some (.ref 0), some (.int l1), o2] [] (V, T) Q := by
  refine e_aload_n zd31_83 rfl rfl ?_
  refine e_getO zd31_84 (own := 7) (ci := 7) (kf := 4) (w := 301) (by decide +kernel) (by decide +kernel) (zsh_at hF rfl).1 (by decide +kernel) rfl (zrf_at hF (i := 4) rfl) ?_
  refine e_aload_n zd31_87 rfl rfl ?_
  refine e_getO zd31_88 (own := 7) (ci := 7) (kf := 0) (w := 297) (by decide +kernel) (by decide +kernel) (zsh_at hF rfl).1 (by decide +kernel) rfl (zrf_at hF (i := 0) rfl) ?_
  refine e_iload_n zd31_91 rfl ?_
  exact e_callV zd31_92 (own := 7) (nest := false) (w := 427) (by decide +kernel) (by decide +kernel) zs35 (as := [.ref 1, .int l1]) (rest := []) rfl rfl (zsh_at hF rfl).1 (by omega) (Nat.le_of_ble_eq_true rfl) rfl rfl rfl (by omega) k
theorem b31_95 {x : zXs} {F : zF} (hF : zSh F) {d : Nat} {V : Nat → Nat → Int32} {T : Nat → Nat → Int64} {Q : Option Value → zG → Prop} {o0 : Option Value} {o1 : Option Value} {o2 : Option Value} {s0 : Int32}   (k : Q (some (.int s0)) (V, T)) : E x F d 31 95 [o0, o1, o2] [.int s0] (V, T) Q := by
  exact e_ireti zd31_95 zs31 k
theorem zd32_0 : zop 32 0 = some (.aload_n 0, 1) := by decide +kernel
theorem zd32_1 : zop 32 1 = some (.iload_n 1, 1) := by decide +kernel
theorem zd32_2 : zop 32 2 = some (.invokevirtual 47, 3) := by decide +kernel
theorem zd32_5 : zop 32 5 = some (.istore_n 2, 1) := by decide +kernel
theorem zd32_6 : zop 32 6 = some (.iload_n 2, 1) := by decide +kernel
theorem zd32_7 : zop 32 7 = some (.iload_n 2, 1) := by decide +kernel
theorem zd32_8 : zop 32 8 = some (.iconst 1, 1) := by decide +kernel
theorem zd32_9 : zop 32 9 = some (.ishl, 1) := by decide +kernel
theorem zd32_10 : zop 32 10 = some (.iconst (-1), 1) := by decide +kernel
theorem zd32_11 : zop 32 11 = some (.ixor, 1) := by decide +kernel
theorem zd32_12 : zop 32 12 = some (.iand, 1) := by decide +kernel
theorem zd32_13 : zop 32 13 = some (.istore_n 3, 1) := by decide +kernel
theorem zd32_14 : zop 32 14 = some (.iload_n 3, 1) := by decide +kernel
theorem zd32_15 : zop 32 15 = some (.invokestatic 51, 3) := by decide +kernel
theorem zd32_18 : zop 32 18 = some (.ireturn, 1) := by decide +kernel
theorem b32_0 {x : zXs} {F : zF} (hF : zSh F) {d : Nat} {V : Nat → Nat → Int32} {T : Nat → Nat → Int64} {Q : Option Value → zG → Prop} {l0 : Nat} {l1 : Int32} {o2 : Option Value} {o3 : Option Value} (hl0 : zSt l0)  (k : E x F d 14 0 [some (.ref l0), some (.int l1)] [] (V, T) (fun r G' => E x F (d + 1) 32 5 [some (.ref l0), some (.int l1), o2, o3] (r.toList ++ []) G' Q)) : E x F (d + 1) 32 0 [some (.ref l0), some (.int l1), o2, o3] [] (V, T) Q := by
  refine e_aload_n zd32_0 rfl rfl ?_
  refine e_iload_n zd32_1 rfl ?_
  exact e_callV zd32_2 (own := 4) (nest := false) (w := 339) (by decide +kernel) (by decide +kernel) zs14 (as := [.int l1]) (rest := []) rfl rfl (zSt_s hF hl0).1 (by omega) (Nat.le_of_ble_eq_true rfl) rfl rfl rfl (by omega) k
theorem b32_5 {x : zXs} {F : zF} (hF : zSh F) {d : Nat} {V : Nat → Nat → Int32} {T : Nat → Nat → Int64} {Q : Option Value → zG → Prop} {o0 : Option Value} {o1 : Option Value} {o2 : Option Value} {o3 : Option Value} {s0 : Int32}   (k : E x F d 15 0 [some (.int (s0 &&& ((s0 <<< ((Int32.ofInt 1) &&& 31)) ^^^ (Int32.ofInt (-1)))))] [] (V, T) (fun r G' => E x F (d + 1) 32 18 [o0, o1, some (.int s0), some (.int (s0 &&& ((s0 <<< ((Int32.ofInt 1) &&& 31)) ^^^ (Int32.ofInt (-1)))))] (r.toList ++ []) G' Q)) : E x F (d + 1) 32 5 [o0, o1, o2, o3] [.int s0] (V, T) Q := by
  refine e_istore_n zd32_5 (by decide +kernel) (Nat.le_of_ble_eq_true rfl) ?_
  refine e_iload_n zd32_6 rfl ?_
  refine e_iload_n zd32_7 rfl ?_
  refine e_iconst zd32_8 ?_
  refine e_ishl zd32_9 ?_
  refine e_iconst zd32_10 ?_
  refine e_ixor zd32_11 ?_
  refine e_iand zd32_12 ?_
  refine e_istore_n zd32_13 (by decide +kernel) (Nat.le_of_ble_eq_true rfl) ?_
  refine e_iload_n zd32_14 rfl ?_
  exact e_callS zd32_15 (own := 4) (nest := false) (w := 343) (by decide +kernel) (by decide +kernel) zs15 (as := [.int (s0 &&& ((s0 <<< ((Int32.ofInt 1) &&& 31)) ^^^ (Int32.ofInt (-1))))]) (rest := []) rfl rfl (Nat.le_of_ble_eq_true rfl) rfl rfl rfl (by omega) k
theorem b32_18 {x : zXs} {F : zF} (hF : zSh F) {d : Nat} {V : Nat → Nat → Int32} {T : Nat → Nat → Int64} {Q : Option Value → zG → Prop} {o0 : Option Value} {o1 : Option Value} {o2 : Option Value} {o3 : Option Value} {s0 : Int32}   (k : Q (some (.int s0)) (V, T)) : E x F d 32 18 [o0, o1, o2, o3] [.int s0] (V, T) Q := by
  exact e_ireti zd32_18 zs32 k
theorem zd33_0 : zop 33 0 = some (.iconst 0, 1) := by decide +kernel
theorem zd33_1 : zop 33 1 = some (.istore_n 2, 1) := by decide +kernel
theorem zd33_2 : zop 33 2 = some (.aload_n 0, 1) := by decide +kernel
theorem zd33_3 : zop 33 3 = some (.iload_n 1, 1) := by decide +kernel
theorem zd33_4 : zop 33 4 = some (.invokevirtual 59, 3) := by decide +kernel
theorem zd33_7 : zop 33 7 = some (.istore_n 3, 1) := by decide +kernel
theorem zd33_8 : zop 33 8 = some (.iconst 0, 1) := by decide +kernel
theorem zd33_9 : zop 33 9 = some (.istore 4, 2) := by decide +kernel
theorem zd33_11 : zop 33 11 = some (.iload 4, 2) := by decide +kernel
theorem zd33_13 : zop 33 13 = some (.iload_n 3, 1) := by decide +kernel
theorem zd33_14 : zop 33 14 = some (.if_icmp .ge 21, 3) := by decide +kernel
theorem zd33_17 : zop 33 17 = some (.iload_n 2, 1) := by decide +kernel
theorem zd33_18 : zop 33 18 = some (.aload_n 0, 1) := by decide +kernel
theorem zd33_19 : zop 33 19 = some (.iload_n 1, 1) := by decide +kernel
theorem zd33_20 : zop 33 20 = some (.iload 4, 2) := by decide +kernel
theorem zd33_22 : zop 33 22 = some (.invokevirtual 62, 3) := by decide +kernel
theorem zd33_25 : zop 33 25 = some (.invokestatic 66, 3) := by decide +kernel
theorem zd33_28 : zop 33 28 = some (.istore_n 2, 1) := by decide +kernel
theorem zd33_29 : zop 33 29 = some (.iinc 4 1, 3) := by decide +kernel
theorem zd33_32 : zop 33 32 = some (.goto (-21), 3) := by decide +kernel
theorem zd33_35 : zop 33 35 = some (.iload_n 2, 1) := by decide +kernel
theorem zd33_36 : zop 33 36 = some (.ireturn, 1) := by decide +kernel
theorem b33_0 {x : zXs} {F : zF} (hF : zSh F) {d : Nat} {V : Nat → Nat → Int32} {T : Nat → Nat → Int64} {Q : Option Value → zG → Prop} {l0 : Nat} {l1 : Int32} {o2 : Option Value} {o3 : Option Value} {o4 : Option Value} (hl0 : zSt l0)  (k : E x F d 32 0 [some (.ref l0), some (.int l1), none, none] [] (V, T) (fun r G' => E x F (d + 1) 33 7 [some (.ref l0), some (.int l1), some (.int (Int32.ofInt 0)), o3, o4] (r.toList ++ []) G' Q)) : E x F (d + 1) 33 0 [some (.ref l0), some (.int l1), o2, o3, o4] [] (V, T) Q := by
  refine e_iconst zd33_0 ?_
  refine e_istore_n zd33_1 (by decide +kernel) (Nat.le_of_ble_eq_true rfl) ?_
  refine e_aload_n zd33_2 rfl rfl ?_
  refine e_iload_n zd33_3 rfl ?_
  exact e_callV zd33_4 (own := 4) (nest := false) (w := 419) (by decide +kernel) (by decide +kernel) zs32 (as := [.int l1]) (rest := []) rfl rfl (zSt_s hF hl0).1 (by omega) (Nat.le_of_ble_eq_true rfl) rfl rfl rfl (by omega) k
theorem b33_7 {x : zXs} {F : zF} (hF : zSh F) {d : Nat} {V : Nat → Nat → Int32} {T : Nat → Nat → Int64} {Q : Option Value → zG → Prop} {o0 : Option Value} {o1 : Option Value} {o2 : Option Value} {o3 : Option Value} {o4 : Option Value} {s0 : Int32}   (k : E x F d 33 11 [o0, o1, o2, some (.int s0), some (.int (Int32.ofInt 0))] [] (V, T) Q) : E x F d 33 7 [o0, o1, o2, o3, o4] [.int s0] (V, T) Q := by
  refine e_istore_n zd33_7 (by decide +kernel) (Nat.le_of_ble_eq_true rfl) ?_
  refine e_iconst zd33_8 ?_
  refine e_istore zd33_9 (by decide +kernel) (Nat.le_of_ble_eq_true rfl) ?_
  exact k
theorem b33_11 {x : zXs} {F : zF} (hF : zSh F) {d : Nat} {V : Nat → Nat → Int32} {T : Nat → Nat → Int64} {Q : Option Value → zG → Prop} {o0 : Option Value} {o1 : Option Value} {o2 : Option Value} {l3 : Int32} {l4 : Int32}   (kt : l3 ≤ l4 → E x F d 33 35 [o0, o1, o2, some (.int l3), some (.int l4)] [] (V, T) Q) (kf : ¬ (l3 ≤ l4) → E x F d 33 17 [o0, o1, o2, some (.int l3), some (.int l4)] [] (V, T) Q) : E x F d 33 11 [o0, o1, o2, some (.int l3), some (.int l4)] [] (V, T) Q := by
  refine e_iload zd33_11 rfl ?_
  refine e_iload_n zd33_13 rfl ?_
  exact e_icmp_ge zd33_14 (tg := 35) rfl kt kf
theorem b33_17 {x : zXs} {F : zF} (hF : zSh F) {d : Nat} {V : Nat → Nat → Int32} {T : Nat → Nat → Int64} {Q : Option Value → zG → Prop} {l0 : Nat} {l1 : Int32} {l2 : Int32} {o3 : Option Value} {l4 : Int32} (hl0 : zSt l0)  (k : E x F d 34 0 [some (.ref l0), some (.int l1), some (.int l4), none, none, none, none, none, none] [] (V, T) (fun r G' => E x F (d + 1) 33 25 [some (.ref l0), some (.int l1), some (.int l2), o3, some (.int l4)] (r.toList ++ [.int l2]) G' Q)) : E x F (d + 1) 33 17 [some (.ref l0), some (.int l1), some (.int l2), o3, some (.int l4)] [] (V, T) Q := by
  refine e_iload_n zd33_17 rfl ?_
  refine e_aload_n zd33_18 rfl rfl ?_
  refine e_iload_n zd33_19 rfl ?_
  refine e_iload zd33_20 rfl ?_
  exact e_callV zd33_22 (own := 4) (nest := false) (w := 420) (by decide +kernel) (by decide +kernel) zs34 (as := [.int l1, .int l4]) (rest := [.int l2]) rfl rfl (zSt_s hF hl0).1 (by omega) (Nat.le_of_ble_eq_true rfl) rfl rfl rfl (by omega) k
theorem b33_25 {x : zXs} {F : zF} (hF : zSh F) {d : Nat} {V : Nat → Nat → Int32} {T : Nat → Nat → Int64} {Q : Option Value → zG → Prop} {o0 : Option Value} {o1 : Option Value} {o2 : Option Value} {o3 : Option Value} {l4 : Int32} {s0 : Int32} {s1 : Int32}   (k : E x F d 33 11 [o0, o1, some (.int (if s0 < s1 then s1 else s0)), o3, some (.int (l4 + Int32.ofInt 1))] [] (V, T) Q) : E x F d 33 25 [o0, o1, o2, o3, some (.int l4)] [.int s1, .int s0] (V, T) Q := by
  refine e_max zd33_25 (own := 4) (w := 424) (by decide +kernel) (by decide +kernel) (by decide +kernel) (Nat.le_of_ble_eq_true rfl) ?_
  refine e_istore_n zd33_28 (by decide +kernel) (Nat.le_of_ble_eq_true rfl) ?_
  refine e_iinc zd33_29 rfl (by decide +kernel) ?_
  exact e_goto zd33_32 (tg := 11) rfl k
theorem b33_35 {x : zXs} {F : zF} (hF : zSh F) {d : Nat} {V : Nat → Nat → Int32} {T : Nat → Nat → Int64} {Q : Option Value → zG → Prop} {o0 : Option Value} {o1 : Option Value} {l2 : Int32} {o3 : Option Value} {o4 : Option Value}   (k : Q (some (.int l2)) (V, T)) : E x F d 33 35 [o0, o1, some (.int l2), o3, o4] [] (V, T) Q := by
  refine e_iload_n zd33_35 rfl ?_
  exact e_ireti zd33_36 zs33 k
theorem zd34_0 : zop 34 0 = some (.aload_n 0, 1) := by decide +kernel
theorem zd34_1 : zop 34 1 = some (.iload_n 1, 1) := by decide +kernel
theorem zd34_2 : zop 34 2 = some (.invokevirtual 47, 3) := by decide +kernel
theorem zd34_5 : zop 34 5 = some (.istore_n 3, 1) := by decide +kernel
theorem zd34_6 : zop 34 6 = some (.iconst (-1), 1) := by decide +kernel
theorem zd34_7 : zop 34 7 = some (.istore 4, 2) := by decide +kernel
theorem zd34_9 : zop 34 9 = some (.iconst 0, 1) := by decide +kernel
theorem zd34_10 : zop 34 10 = some (.istore 5, 2) := by decide +kernel
theorem zd34_12 : zop 34 12 = some (.iconst 0, 1) := by decide +kernel
theorem zd34_13 : zop 34 13 = some (.istore 6, 2) := by decide +kernel
theorem zd34_15 : zop 34 15 = some (.iload 6, 2) := by decide +kernel
theorem zd34_17 : zop 34 17 = some (.bipush 24, 2) := by decide +kernel
theorem zd34_19 : zop 34 19 = some (.if_icmp .ge 77, 3) := by decide +kernel
theorem zd34_22 : zop 34 22 = some (.iload_n 3, 1) := by decide +kernel
theorem zd34_23 : zop 34 23 = some (.iload 6, 2) := by decide +kernel
theorem zd34_25 : zop 34 25 = some (.ishr, 1) := by decide +kernel
theorem zd34_26 : zop 34 26 = some (.iconst 1, 1) := by decide +kernel
theorem zd34_27 : zop 34 27 = some (.iand, 1) := by decide +kernel
theorem zd34_28 : zop 34 28 = some (.iconst 1, 1) := by decide +kernel
theorem zd34_29 : zop 34 29 = some (.if_icmp .ne 7, 3) := by decide +kernel
theorem zd34_32 : zop 34 32 = some (.iconst 1, 1) := by decide +kernel
theorem zd34_33 : zop 34 33 = some (.goto 4, 3) := by decide +kernel
theorem zd34_36 : zop 34 36 = some (.iconst 0, 1) := by decide +kernel
theorem zd34_37 : zop 34 37 = some (.istore 7, 2) := by decide +kernel
theorem zd34_39 : zop 34 39 = some (.iload 6, 2) := by decide +kernel
theorem zd34_41 : zop 34 41 = some (.ifCond .le 19, 3) := by decide +kernel
theorem zd34_44 : zop 34 44 = some (.iload_n 3, 1) := by decide +kernel
theorem zd34_45 : zop 34 45 = some (.iload 6, 2) := by decide +kernel
theorem zd34_47 : zop 34 47 = some (.iconst 1, 1) := by decide +kernel
theorem zd34_48 : zop 34 48 = some (.isub, 1) := by decide +kernel
theorem zd34_49 : zop 34 49 = some (.ishr, 1) := by decide +kernel
theorem zd34_50 : zop 34 50 = some (.iconst 1, 1) := by decide +kernel
theorem zd34_51 : zop 34 51 = some (.iand, 1) := by decide +kernel
theorem zd34_52 : zop 34 52 = some (.iconst 1, 1) := by decide +kernel
theorem zd34_53 : zop 34 53 = some (.if_icmp .ne 7, 3) := by decide +kernel
theorem zd34_56 : zop 34 56 = some (.iconst 1, 1) := by decide +kernel
theorem zd34_57 : zop 34 57 = some (.goto 4, 3) := by decide +kernel
theorem zd34_60 : zop 34 60 = some (.iconst 0, 1) := by decide +kernel
theorem zd34_61 : zop 34 61 = some (.istore 8, 2) := by decide +kernel
theorem zd34_63 : zop 34 63 = some (.iload 7, 2) := by decide +kernel
theorem zd34_65 : zop 34 65 = some (.ifCond .eq 11, 3) := by decide +kernel
theorem zd34_68 : zop 34 68 = some (.iload 8, 2) := by decide +kernel
theorem zd34_70 : zop 34 70 = some (.ifCond .ne 6, 3) := by decide +kernel
theorem zd34_73 : zop 34 73 = some (.iinc 4 1, 3) := by decide +kernel
theorem zd34_76 : zop 34 76 = some (.iload 7, 2) := by decide +kernel
theorem zd34_78 : zop 34 78 = some (.ifCond .eq 12, 3) := by decide +kernel
theorem zd34_81 : zop 34 81 = some (.iload 4, 2) := by decide +kernel
theorem zd34_83 : zop 34 83 = some (.iload_n 2, 1) := by decide +kernel
theorem zd34_84 : zop 34 84 = some (.if_icmp .ne 6, 3) := by decide +kernel
theorem zd34_87 : zop 34 87 = some (.iinc 5 1, 3) := by decide +kernel
theorem zd34_90 : zop 34 90 = some (.iinc 6 1, 3) := by decide +kernel
theorem zd34_93 : zop 34 93 = some (.goto (-78), 3) := by decide +kernel
theorem zd34_96 : zop 34 96 = some (.iload 5, 2) := by decide +kernel
theorem zd34_98 : zop 34 98 = some (.ireturn, 1) := by decide +kernel
theorem b34_0 {x : zXs} {F : zF} (hF : zSh F) {d : Nat} {V : Nat → Nat → Int32} {T : Nat → Nat → Int64} {Q : Option Value → zG → Prop} {l0 : Nat} {l1 : Int32} {o2 : Option Value} {o3 : Option Value} {o4 : Option Value} {o5 : Option Value} {o6 : Option Value} {o7 : Option Value} {o8 : Option Value} (hl0 : zSt l0)  (k : E x F d 14 0 [some (.ref l0), some (.int l1)] [] (V, T) (fun r G' => E x F (d + 1) 34 5 [some (.ref l0), some (.int l1), o2, o3, o4, o5, o6, o7, o8] (r.toList ++ []) G' Q)) : E x F (d + 1) 34 0 [some (.ref l0), some (.int l1), o2, o3, o4, o5, o6, o7, o8] [] (V, T) Q := by
  refine e_aload_n zd34_0 rfl rfl ?_
  refine e_iload_n zd34_1 rfl ?_
  exact e_callV zd34_2 (own := 4) (nest := false) (w := 339) (by decide +kernel) (by decide +kernel) zs14 (as := [.int l1]) (rest := []) rfl rfl (zSt_s hF hl0).1 (by omega) (Nat.le_of_ble_eq_true rfl) rfl rfl rfl (by omega) k
theorem b34_5 {x : zXs} {F : zF} (hF : zSh F) {d : Nat} {V : Nat → Nat → Int32} {T : Nat → Nat → Int64} {Q : Option Value → zG → Prop} {o0 : Option Value} {o1 : Option Value} {o2 : Option Value} {o3 : Option Value} {o4 : Option Value} {o5 : Option Value} {o6 : Option Value} {o7 : Option Value} {o8 : Option Value} {s0 : Int32}   (k : E x F d 34 15 [o0, o1, o2, some (.int s0), some (.int (Int32.ofInt (-1))), some (.int (Int32.ofInt 0)), some (.int (Int32.ofInt 0)), o7, o8] [] (V, T) Q) : E x F d 34 5 [o0, o1, o2, o3, o4, o5, o6, o7, o8] [.int s0] (V, T) Q := by
  refine e_istore_n zd34_5 (by decide +kernel) (Nat.le_of_ble_eq_true rfl) ?_
  refine e_iconst zd34_6 ?_
  refine e_istore zd34_7 (by decide +kernel) (Nat.le_of_ble_eq_true rfl) ?_
  refine e_iconst zd34_9 ?_
  refine e_istore zd34_10 (by decide +kernel) (Nat.le_of_ble_eq_true rfl) ?_
  refine e_iconst zd34_12 ?_
  refine e_istore zd34_13 (by decide +kernel) (Nat.le_of_ble_eq_true rfl) ?_
  exact k
theorem b34_15 {x : zXs} {F : zF} (hF : zSh F) {d : Nat} {V : Nat → Nat → Int32} {T : Nat → Nat → Int64} {Q : Option Value → zG → Prop} {o0 : Option Value} {o1 : Option Value} {o2 : Option Value} {o3 : Option Value} {o4 : Option Value} {o5 : Option Value} {l6 : Int32} {o7 : Option Value} {o8 : Option Value}   (kt : (Int32.ofInt 24) ≤ l6 → E x F d 34 96 [o0, o1, o2, o3, o4, o5, some (.int l6), o7, o8] [] (V, T) Q) (kf : ¬ ((Int32.ofInt 24) ≤ l6) → E x F d 34 22 [o0, o1, o2, o3, o4, o5, some (.int l6), o7, o8] [] (V, T) Q) : E x F d 34 15 [o0, o1, o2, o3, o4, o5, some (.int l6), o7, o8] [] (V, T) Q := by
  refine e_iload zd34_15 rfl ?_
  refine e_bipush zd34_17 (v := Int32.ofInt 24) (by decide +kernel) ?_
  exact e_icmp_ge zd34_19 (tg := 96) rfl kt kf
theorem b34_22 {x : zXs} {F : zF} (hF : zSh F) {d : Nat} {V : Nat → Nat → Int32} {T : Nat → Nat → Int64} {Q : Option Value → zG → Prop} {o0 : Option Value} {o1 : Option Value} {o2 : Option Value} {l3 : Int32} {o4 : Option Value} {o5 : Option Value} {l6 : Int32} {o7 : Option Value} {o8 : Option Value}   (kt : ¬ ((l3 >>> (l6 &&& 31)) &&& (Int32.ofInt 1)) = (Int32.ofInt 1) → E x F d 34 36 [o0, o1, o2, some (.int l3), o4, o5, some (.int l6), o7, o8] [] (V, T) Q) (kf : ¬ (¬ ((l3 >>> (l6 &&& 31)) &&& (Int32.ofInt 1)) = (Int32.ofInt 1)) → E x F d 34 32 [o0, o1, o2, some (.int l3), o4, o5, some (.int l6), o7, o8] [] (V, T) Q) : E x F d 34 22 [o0, o1, o2, some (.int l3), o4, o5, some (.int l6), o7, o8] [] (V, T) Q := by
  refine e_iload_n zd34_22 rfl ?_
  refine e_iload zd34_23 rfl ?_
  refine e_ishr zd34_25 ?_
  refine e_iconst zd34_26 ?_
  refine e_iand zd34_27 ?_
  refine e_iconst zd34_28 ?_
  exact e_icmp_ne zd34_29 (tg := 36) rfl kt kf
theorem b34_32 {x : zXs} {F : zF} (hF : zSh F) {d : Nat} {V : Nat → Nat → Int32} {T : Nat → Nat → Int64} {Q : Option Value → zG → Prop} {o0 : Option Value} {o1 : Option Value} {o2 : Option Value} {o3 : Option Value} {o4 : Option Value} {o5 : Option Value} {o6 : Option Value} {o7 : Option Value} {o8 : Option Value}   (k : E x F d 34 37 [o0, o1, o2, o3, o4, o5, o6, o7, o8] [.int (Int32.ofInt 1)] (V, T) Q) : E x F d 34 32 [o0, o1, o2, o3, o4, o5, o6, o7, o8] [] (V, T) Q := by
  refine e_iconst zd34_32 ?_
  exact e_goto zd34_33 (tg := 37) rfl k
theorem b34_36 {x : zXs} {F : zF} (hF : zSh F) {d : Nat} {V : Nat → Nat → Int32} {T : Nat → Nat → Int64} {Q : Option Value → zG → Prop} {o0 : Option Value} {o1 : Option Value} {o2 : Option Value} {o3 : Option Value} {o4 : Option Value} {o5 : Option Value} {o6 : Option Value} {o7 : Option Value} {o8 : Option Value}   (k : E x F d 34 37 [o0, o1, o2, o3, o4, o5, o6, o7, o8] [.int (Int32.ofInt 0)] (V, T) Q) : E x F d 34 36 [o0, o1, o2, o3, o4, o5, o6, o7, o8] [] (V, T) Q := by
  refine e_iconst zd34_36 ?_
  exact k
theorem b34_37 {x : zXs} {F : zF} (hF : zSh F) {d : Nat} {V : Nat → Nat → Int32} {T : Nat → Nat → Int64} {Q : Option Value → zG → Prop} {o0 : Option Value} {o1 : Option Value} {o2 : Option Value} {o3 : Option Value} {o4 : Option Value} {o5 : Option Value} {l6 : Int32} {o7 : Option Value} {o8 : Option Value} {s0 : Int32}   (kt : l6 ≤ 0 → E x F d 34 60 [o0, o1, o2, o3, o4, o5, some (.int l6), some (.int s0), o8] [] (V, T) Q) (kf : ¬ (l6 ≤ 0) → E x F d 34 44 [o0, o1, o2, o3, o4, o5, some (.int l6), some (.int s0), o8] [] (V, T) Q) : E x F d 34 37 [o0, o1, o2, o3, o4, o5, some (.int l6), o7, o8] [.int s0] (V, T) Q := by
  refine e_istore zd34_37 (by decide +kernel) (Nat.le_of_ble_eq_true rfl) ?_
  refine e_iload zd34_39 rfl ?_
  exact e_if_le zd34_41 (tg := 60) rfl kt kf
theorem b34_44 {x : zXs} {F : zF} (hF : zSh F) {d : Nat} {V : Nat → Nat → Int32} {T : Nat → Nat → Int64} {Q : Option Value → zG → Prop} {o0 : Option Value} {o1 : Option Value} {o2 : Option Value} {l3 : Int32} {o4 : Option Value} {o5 : Option Value} {l6 : Int32} {o7 : Option Value} {o8 : Option Value}   (kt : ¬ ((l3 >>> ((l6 - (Int32.ofInt 1)) &&& 31)) &&& (Int32.ofInt 1)) = (Int32.ofInt 1) → E x F d 34 60 [o0, o1, o2, some (.int l3), o4, o5, some (.int l6), o7, o8] [] (V, T) Q) (kf : ¬ (¬ ((l3 >>> ((l6 - (Int32.ofInt 1)) &&& 31)) &&& (Int32.ofInt 1)) = (Int32.ofInt 1)) → E x F d 34 56 [o0, o1, o2, some (.int l3), o4, o5, some (.int l6), o7, o8] [] (V, T) Q) : E x F d 34 44 [o0, o1, o2, some (.int l3), o4, o5, some (.int l6), o7, o8] [] (V, T) Q := by
  refine e_iload_n zd34_44 rfl ?_
  refine e_iload zd34_45 rfl ?_
  refine e_iconst zd34_47 ?_
  refine e_isub zd34_48 ?_
  refine e_ishr zd34_49 ?_
  refine e_iconst zd34_50 ?_
  refine e_iand zd34_51 ?_
  refine e_iconst zd34_52 ?_
  exact e_icmp_ne zd34_53 (tg := 60) rfl kt kf
theorem b34_56 {x : zXs} {F : zF} (hF : zSh F) {d : Nat} {V : Nat → Nat → Int32} {T : Nat → Nat → Int64} {Q : Option Value → zG → Prop} {o0 : Option Value} {o1 : Option Value} {o2 : Option Value} {o3 : Option Value} {o4 : Option Value} {o5 : Option Value} {o6 : Option Value} {o7 : Option Value} {o8 : Option Value}   (k : E x F d 34 61 [o0, o1, o2, o3, o4, o5, o6, o7, o8] [.int (Int32.ofInt 1)] (V, T) Q) : E x F d 34 56 [o0, o1, o2, o3, o4, o5, o6, o7, o8] [] (V, T) Q := by
  refine e_iconst zd34_56 ?_
  exact e_goto zd34_57 (tg := 61) rfl k
theorem b34_60 {x : zXs} {F : zF} (hF : zSh F) {d : Nat} {V : Nat → Nat → Int32} {T : Nat → Nat → Int64} {Q : Option Value → zG → Prop} {o0 : Option Value} {o1 : Option Value} {o2 : Option Value} {o3 : Option Value} {o4 : Option Value} {o5 : Option Value} {o6 : Option Value} {o7 : Option Value} {o8 : Option Value}   (k : E x F d 34 61 [o0, o1, o2, o3, o4, o5, o6, o7, o8] [.int (Int32.ofInt 0)] (V, T) Q) : E x F d 34 60 [o0, o1, o2, o3, o4, o5, o6, o7, o8] [] (V, T) Q := by
  refine e_iconst zd34_60 ?_
  exact k
theorem b34_61 {x : zXs} {F : zF} (hF : zSh F) {d : Nat} {V : Nat → Nat → Int32} {T : Nat → Nat → Int64} {Q : Option Value → zG → Prop} {o0 : Option Value} {o1 : Option Value} {o2 : Option Value} {o3 : Option Value} {o4 : Option Value} {o5 : Option Value} {o6 : Option Value} {l7 : Int32} {o8 : Option Value} {s0 : Int32}   (kt : l7 = 0 → E x F d 34 76 [o0, o1, o2, o3, o4, o5, o6, some (.int l7), some (.int s0)] [] (V, T) Q) (kf : ¬ (l7 = 0) → E x F d 34 68 [o0, o1, o2, o3, o4, o5, o6, some (.int l7), some (.int s0)] [] (V, T) Q) : E x F d 34 61 [o0, o1, o2, o3, o4, o5, o6, some (.int l7), o8] [.int s0] (V, T) Q := by
  refine e_istore zd34_61 (by decide +kernel) (Nat.le_of_ble_eq_true rfl) ?_
  refine e_iload zd34_63 rfl ?_
  exact e_if_eq zd34_65 (tg := 76) rfl kt kf
theorem b34_68 {x : zXs} {F : zF} (hF : zSh F) {d : Nat} {V : Nat → Nat → Int32} {T : Nat → Nat → Int64} {Q : Option Value → zG → Prop} {o0 : Option Value} {o1 : Option Value} {o2 : Option Value} {o3 : Option Value} {o4 : Option Value} {o5 : Option Value} {o6 : Option Value} {o7 : Option Value} {l8 : Int32}   (kt : ¬ l8 = 0 → E x F d 34 76 [o0, o1, o2, o3, o4, o5, o6, o7, some (.int l8)] [] (V, T) Q) (kf : ¬ (¬ l8 = 0) → E x F d 34 73 [o0, o1, o2, o3, o4, o5, o6, o7, some (.int l8)] [] (V, T) Q) : E x F d 34 68 [o0, o1, o2, o3, o4, o5, o6, o7, some (.int l8)] [] (V, T) Q := by
  refine e_iload zd34_68 rfl ?_
  exact e_if_ne zd34_70 (tg := 76) rfl kt kf
theorem b34_73 {x : zXs} {F : zF} (hF : zSh F) {d : Nat} {V : Nat → Nat → Int32} {T : Nat → Nat → Int64} {Q : Option Value → zG → Prop} {o0 : Option Value} {o1 : Option Value} {o2 : Option Value} {o3 : Option Value} {l4 : Int32} {o5 : Option Value} {o6 : Option Value} {o7 : Option Value} {o8 : Option Value}   (k : E x F d 34 76 [o0, o1, o2, o3, some (.int (l4 + Int32.ofInt 1)), o5, o6, o7, o8] [] (V, T) Q) : E x F d 34 73 [o0, o1, o2, o3, some (.int l4), o5, o6, o7, o8] [] (V, T) Q := by
  refine e_iinc zd34_73 rfl (by decide +kernel) ?_
  exact k
theorem b34_76 {x : zXs} {F : zF} (hF : zSh F) {d : Nat} {V : Nat → Nat → Int32} {T : Nat → Nat → Int64} {Q : Option Value → zG → Prop} {o0 : Option Value} {o1 : Option Value} {o2 : Option Value} {o3 : Option Value} {o4 : Option Value} {o5 : Option Value} {o6 : Option Value} {l7 : Int32} {o8 : Option Value}   (kt : l7 = 0 → E x F d 34 90 [o0, o1, o2, o3, o4, o5, o6, some (.int l7), o8] [] (V, T) Q) (kf : ¬ (l7 = 0) → E x F d 34 81 [o0, o1, o2, o3, o4, o5, o6, some (.int l7), o8] [] (V, T) Q) : E x F d 34 76 [o0, o1, o2, o3, o4, o5, o6, some (.int l7), o8] [] (V, T) Q := by
  refine e_iload zd34_76 rfl ?_
  exact e_if_eq zd34_78 (tg := 90) rfl kt kf
theorem b34_81 {x : zXs} {F : zF} (hF : zSh F) {d : Nat} {V : Nat → Nat → Int32} {T : Nat → Nat → Int64} {Q : Option Value → zG → Prop} {o0 : Option Value} {o1 : Option Value} {l2 : Int32} {o3 : Option Value} {l4 : Int32} {o5 : Option Value} {o6 : Option Value} {o7 : Option Value} {o8 : Option Value}   (kt : ¬ l4 = l2 → E x F d 34 90 [o0, o1, some (.int l2), o3, some (.int l4), o5, o6, o7, o8] [] (V, T) Q) (kf : ¬ (¬ l4 = l2) → E x F d 34 87 [o0, o1, some (.int l2), o3, some (.int l4), o5, o6, o7, o8] [] (V, T) Q) : E x F d 34 81 [o0, o1, some (.int l2), o3, some (.int l4), o5, o6, o7, o8] [] (V, T) Q := by
  refine e_iload zd34_81 rfl ?_
  refine e_iload_n zd34_83 rfl ?_
  exact e_icmp_ne zd34_84 (tg := 90) rfl kt kf
theorem b34_87 {x : zXs} {F : zF} (hF : zSh F) {d : Nat} {V : Nat → Nat → Int32} {T : Nat → Nat → Int64} {Q : Option Value → zG → Prop} {o0 : Option Value} {o1 : Option Value} {o2 : Option Value} {o3 : Option Value} {o4 : Option Value} {l5 : Int32} {o6 : Option Value} {o7 : Option Value} {o8 : Option Value}   (k : E x F d 34 90 [o0, o1, o2, o3, o4, some (.int (l5 + Int32.ofInt 1)), o6, o7, o8] [] (V, T) Q) : E x F d 34 87 [o0, o1, o2, o3, o4, some (.int l5), o6, o7, o8] [] (V, T) Q := by
  refine e_iinc zd34_87 rfl (by decide +kernel) ?_
  exact k
theorem b34_90 {x : zXs} {F : zF} (hF : zSh F) {d : Nat} {V : Nat → Nat → Int32} {T : Nat → Nat → Int64} {Q : Option Value → zG → Prop} {o0 : Option Value} {o1 : Option Value} {o2 : Option Value} {o3 : Option Value} {o4 : Option Value} {o5 : Option Value} {l6 : Int32} {o7 : Option Value} {o8 : Option Value}   (k : E x F d 34 15 [o0, o1, o2, o3, o4, o5, some (.int (l6 + Int32.ofInt 1)), o7, o8] [] (V, T) Q) : E x F d 34 90 [o0, o1, o2, o3, o4, o5, some (.int l6), o7, o8] [] (V, T) Q := by
  refine e_iinc zd34_90 rfl (by decide +kernel) ?_
  exact e_goto zd34_93 (tg := 15) rfl k
theorem b34_96 {x : zXs} {F : zF} (hF : zSh F) {d : Nat} {V : Nat → Nat → Int32} {T : Nat → Nat → Int64} {Q : Option Value → zG → Prop} {o0 : Option Value} {o1 : Option Value} {o2 : Option Value} {o3 : Option Value} {o4 : Option Value} {l5 : Int32} {o6 : Option Value} {o7 : Option Value} {o8 : Option Value}   (k : Q (some (.int l5)) (V, T)) : E x F d 34 96 [o0, o1, o2, o3, o4, some (.int l5), o6, o7, o8] [] (V, T) Q := by
  refine e_iload zd34_96 rfl ?_
  exact e_ireti zd34_98 zs34 k
theorem zd35_0 : zop 35 0 = some (.aload_n 0, 1) := by decide +kernel
theorem zd35_1 : zop 35 1 = some (.getfield 17, 3) := by decide +kernel
theorem zd35_4 : zop 35 4 = some (.iconst 0, 1) := by decide +kernel
theorem zd35_5 : zop 35 5 = some (.aload_n 1, 1) := by decide +kernel
theorem zd35_6 : zop 35 6 = some (.iload_n 2, 1) := by decide +kernel
theorem zd35_7 : zop 35 7 = some (.invokevirtual 57, 3) := by decide +kernel
theorem zd35_10 : zop 35 10 = some (.iastore, 1) := by decide +kernel
theorem zd35_11 : zop 35 11 = some (.aload_n 0, 1) := by decide +kernel
theorem zd35_12 : zop 35 12 = some (.getfield 17, 3) := by decide +kernel
theorem zd35_15 : zop 35 15 = some (.iconst 1, 1) := by decide +kernel
theorem zd35_16 : zop 35 16 = some (.iconst 0, 1) := by decide +kernel
theorem zd35_17 : zop 35 17 = some (.iastore, 1) := by decide +kernel
theorem zd35_18 : zop 35 18 = some (.aload_n 0, 1) := by decide +kernel
theorem zd35_19 : zop 35 19 = some (.getfield 17, 3) := by decide +kernel
theorem zd35_22 : zop 35 22 = some (.iconst 2, 1) := by decide +kernel
theorem zd35_23 : zop 35 23 = some (.iconst 0, 1) := by decide +kernel
theorem zd35_24 : zop 35 24 = some (.iastore, 1) := by decide +kernel
theorem zd35_25 : zop 35 25 = some (.aload_n 0, 1) := by decide +kernel
theorem zd35_26 : zop 35 26 = some (.getfield 17, 3) := by decide +kernel
theorem zd35_29 : zop 35 29 = some (.iconst 3, 1) := by decide +kernel
theorem zd35_30 : zop 35 30 = some (.aload_n 1, 1) := by decide +kernel
theorem zd35_31 : zop 35 31 = some (.getfield 61, 3) := by decide +kernel
theorem zd35_34 : zop 35 34 = some (.iastore, 1) := by decide +kernel
theorem zd35_35 : zop 35 35 = some (.aload_n 0, 1) := by decide +kernel
theorem zd35_36 : zop 35 36 = some (.getfield 17, 3) := by decide +kernel
theorem zd35_39 : zop 35 39 = some (.iconst 4, 1) := by decide +kernel
theorem zd35_40 : zop 35 40 = some (.iconst 0, 1) := by decide +kernel
theorem zd35_41 : zop 35 41 = some (.iastore, 1) := by decide +kernel
theorem zd35_42 : zop 35 42 = some (.aload_n 0, 1) := by decide +kernel
theorem zd35_43 : zop 35 43 = some (.getfield 17, 3) := by decide +kernel
theorem zd35_46 : zop 35 46 = some (.iconst 5, 1) := by decide +kernel
theorem zd35_47 : zop 35 47 = some (.iload_n 2, 1) := by decide +kernel
theorem zd35_48 : zop 35 48 = some (.iastore, 1) := by decide +kernel
theorem zd35_49 : zop 35 49 = some (.aload_n 0, 1) := by decide +kernel
theorem zd35_50 : zop 35 50 = some (.aload_n 1, 1) := by decide +kernel
theorem zd35_51 : zop 35 51 = some (.getfield 44, 3) := by decide +kernel
theorem zd35_54 : zop 35 54 = some (.iconst 2, 1) := by decide +kernel
theorem zd35_55 : zop 35 55 = some (.invokevirtual 49, 3) := by decide +kernel
theorem zd35_58 : zop 35 58 = some (.iconst 0, 1) := by decide +kernel
theorem zd35_59 : zop 35 59 = some (.bipush 9, 2) := by decide +kernel
theorem zd35_61 : zop 35 61 = some (.invokestatic 53, 3) := by decide +kernel
theorem zd35_64 : zop 35 64 = some (.ireturn, 1) := by decide +kernel
theorem b35_0 {x : zXs} {F : zF} (hF : zSh F) {d : Nat} {V : Nat → Nat → Int32} {T : Nat → Nat → Int64} {Q : Option Value → zG → Prop} {l1 : Nat} {l2 : Int32} (hl1 : zSt l1)  (k : E x F d 13 0 [some (.ref l1), some (.int l2)] [] (V, T) (fun r G' => E x F (d + 1) 35 10 [some (.ref 20), some (.ref l1), some (.int l2)] (r.toList ++ [.int (Int32.ofInt 0), .ref 22]) G' Q)) : E x F (d + 1) 35 0 [some (.ref 20), some (.ref l1), some (.int l2)] [] (V, T) Q := by
  refine e_aload_n zd35_0 rfl rfl ?_
  refine e_getA zd35_1 (own := 2) (ci := 2) (kf := 1) (w := 198) (by decide +kernel) (by decide +kernel) (zsh_at hF rfl).1 (by decide +kernel) rfl (zrf_at hF (i := 26) rfl) ?_
  refine e_iconst zd35_4 ?_
  refine e_aload_n zd35_5 rfl rfl ?_
  refine e_iload_n zd35_6 rfl ?_
  exact e_callV zd35_7 (own := 2) (nest := false) (w := 431) (by decide +kernel) (by decide +kernel) zs13 (as := [.int l2]) (rest := [.int (Int32.ofInt 0), .ref 22]) rfl rfl (zSt_s hF hl1).1 (by omega) (Nat.le_of_ble_eq_true rfl) rfl rfl rfl (by omega) k
theorem b35_10 {x : zXs} {F : zF} (hF : zSh F) {d : Nat} {V : Nat → Nat → Int32} {T : Nat → Nat → Int64} {Q : Option Value → zG → Prop} {l1 : Nat} {l2 : Int32} {s0 : Nat} {ns0 : Nat} {s1 : Int32} {s2 : Int32} (hl1 : zSt l1) (hs0 : zsh F s0 = 100 ∧ zln F s0 = ns0) (qns0 : ns0 < 2 ^ 31) {i1 : Nat} (e1 : s1 = nI i1) (h1 : i1 < ns0) (k : E x F d 27 0 [some (.ref 20), some (.int ((zu (zu (zu (zu (zu (zu V s0 i1 s2) 22 1 (Int32.ofInt 0)) 22 2 (Int32.ofInt 0)) 22 3 ((zu (zu (zu V s0 i1 s2) 22 1 (Int32.ofInt 0)) 22 2 (Int32.ofInt 0)) l1 6)) 22 4 (Int32.ofInt 0)) 22 5 l2) l1 7)), some (.int (Int32.ofInt 2)), none, none, none, none, none, none] [] (zu (zu (zu (zu (zu (zu V s0 i1 s2) 22 1 (Int32.ofInt 0)) 22 2 (Int32.ofInt 0)) 22 3 ((zu (zu (zu V s0 i1 s2) 22 1 (Int32.ofInt 0)) 22 2 (Int32.ofInt 0)) l1 6)) 22 4 (Int32.ofInt 0)) 22 5 l2, T) (fun r G' => E x F (d + 1) 35 58 [some (.ref 20), some (.ref l1), some (.int l2)] (r.toList ++ []) G' Q)) : E x F (d + 1) 35 10 [some (.ref 20), some (.ref l1), some (.int l2)] [.int s2, .int s1, .ref s0] (V, T) Q := by
  refine e_iast zd35_10 (i := i1) (hs0) e1 h1 qns0 ?_
  refine e_aload_n zd35_11 rfl rfl ?_
  refine e_getA zd35_12 (own := 2) (ci := 2) (kf := 1) (w := 198) (by decide +kernel) (by decide +kernel) (zsh_at hF rfl).1 (by decide +kernel) rfl (zrf_at hF (i := 26) rfl) ?_
  refine e_iconst zd35_15 ?_
  refine e_iconst zd35_16 ?_
  refine e_iast zd35_17 (i := 1) (zsh_at hF rfl) rfl (by omega) (by omega) ?_
  refine e_aload_n zd35_18 rfl rfl ?_
  refine e_getA zd35_19 (own := 2) (ci := 2) (kf := 1) (w := 198) (by decide +kernel) (by decide +kernel) (zsh_at hF rfl).1 (by decide +kernel) rfl (zrf_at hF (i := 26) rfl) ?_
  refine e_iconst zd35_22 ?_
  refine e_iconst zd35_23 ?_
  refine e_iast zd35_24 (i := 2) (zsh_at hF rfl) rfl (by omega) (by omega) ?_
  refine e_aload_n zd35_25 rfl rfl ?_
  refine e_getA zd35_26 (own := 2) (ci := 2) (kf := 1) (w := 198) (by decide +kernel) (by decide +kernel) (zsh_at hF rfl).1 (by decide +kernel) rfl (zrf_at hF (i := 26) rfl) ?_
  refine e_iconst zd35_29 ?_
  refine e_aload_n zd35_30 rfl rfl ?_
  refine e_getI zd35_31 (own := 2) (ci := 4) (kf := 6) (w := 132) (by decide +kernel) (by decide +kernel) (zSt_s hF hl1).1 (by decide +kernel) rfl ?_
  refine e_iast zd35_34 (i := 3) (zsh_at hF rfl) rfl (by omega) (by omega) ?_
  refine e_aload_n zd35_35 rfl rfl ?_
  refine e_getA zd35_36 (own := 2) (ci := 2) (kf := 1) (w := 198) (by decide +kernel) (by decide +kernel) (zsh_at hF rfl).1 (by decide +kernel) rfl (zrf_at hF (i := 26) rfl) ?_
  refine e_iconst zd35_39 ?_
  refine e_iconst zd35_40 ?_
  refine e_iast zd35_41 (i := 4) (zsh_at hF rfl) rfl (by omega) (by omega) ?_
  refine e_aload_n zd35_42 rfl rfl ?_
  refine e_getA zd35_43 (own := 2) (ci := 2) (kf := 1) (w := 198) (by decide +kernel) (by decide +kernel) (zsh_at hF rfl).1 (by decide +kernel) rfl (zrf_at hF (i := 26) rfl) ?_
  refine e_iconst zd35_46 ?_
  refine e_iload_n zd35_47 rfl ?_
  refine e_iast zd35_48 (i := 5) (zsh_at hF rfl) rfl (by omega) (by omega) ?_
  refine e_aload_n zd35_49 rfl rfl ?_
  refine e_aload_n zd35_50 rfl rfl ?_
  refine e_getI zd35_51 (own := 2) (ci := 4) (kf := 7) (w := 135) (by decide +kernel) (by decide +kernel) (zSt_s hF hl1).1 (by decide +kernel) rfl ?_
  refine e_iconst zd35_54 ?_
  exact e_callV zd35_55 (own := 2) (nest := false) (w := 393) (by decide +kernel) (by decide +kernel) zs27 (as := [.int ((zu (zu (zu (zu (zu (zu V s0 i1 s2) 22 1 (Int32.ofInt 0)) 22 2 (Int32.ofInt 0)) 22 3 ((zu (zu (zu V s0 i1 s2) 22 1 (Int32.ofInt 0)) 22 2 (Int32.ofInt 0)) l1 6)) 22 4 (Int32.ofInt 0)) 22 5 l2) l1 7), .int (Int32.ofInt 2)]) (rest := []) rfl rfl (zsh_at hF rfl).1 (by omega) (Nat.le_of_ble_eq_true rfl) rfl rfl rfl (by omega) k
theorem b35_58 {x : zXs} {F : zF} (hF : zSh F) {d : Nat} {V : Nat → Nat → Int32} {T : Nat → Nat → Int64} {Q : Option Value → zG → Prop} {o0 : Option Value} {o1 : Option Value} {o2 : Option Value} {s0 : Int32}   (k : E x F d 30 0 [some (.int s0), some (.int (Int32.ofInt 0)), some (.int (Int32.ofInt 9))] [] (V, T) (fun r G' => E x F (d + 1) 35 64 [o0, o1, o2] (r.toList ++ []) G' Q)) : E x F (d + 1) 35 58 [o0, o1, o2] [.int s0] (V, T) Q := by
  refine e_iconst zd35_58 ?_
  refine e_bipush zd35_59 (v := Int32.ofInt 9) (by decide +kernel) ?_
  exact e_callS zd35_61 (own := 2) (nest := true) (w := 403) (by decide +kernel) (by decide +kernel) zs30 (as := [.int s0, .int (Int32.ofInt 0), .int (Int32.ofInt 9)]) (rest := []) rfl rfl (Nat.le_of_ble_eq_true rfl) rfl rfl rfl (by omega) k
theorem b35_64 {x : zXs} {F : zF} (hF : zSh F) {d : Nat} {V : Nat → Nat → Int32} {T : Nat → Nat → Int64} {Q : Option Value → zG → Prop} {o0 : Option Value} {o1 : Option Value} {o2 : Option Value} {s0 : Int32}   (k : Q (some (.int s0)) (V, T)) : E x F d 35 64 [o0, o1, o2] [.int s0] (V, T) Q := by
  exact e_ireti zd35_64 zs35 k
theorem zd36_0 : zop 36 0 = some (.aload_n 0, 1) := by decide +kernel
theorem zd36_1 : zop 36 1 = some (.getfield 10, 3) := by decide +kernel
theorem zd36_4 : zop 36 4 = some (.iload_n 1, 1) := by decide +kernel
theorem zd36_5 : zop 36 5 = some (.invokevirtual 55, 3) := by decide +kernel
theorem zd36_8 : zop 36 8 = some (.ifCond .eq 21, 3) := by decide +kernel
theorem zd36_11 : zop 36 11 = some (.iload_n 2, 1) := by decide +kernel
theorem zd36_12 : zop 36 12 = some (.iconst 0, 1) := by decide +kernel
theorem zd36_13 : zop 36 13 = some (.aload_n 0, 1) := by decide +kernel
theorem zd36_14 : zop 36 14 = some (.getfield 10, 3) := by decide +kernel
theorem zd36_17 : zop 36 17 = some (.iload_n 1, 1) := by decide +kernel
theorem zd36_18 : zop 36 18 = some (.invokevirtual 111, 3) := by decide +kernel
theorem zd36_21 : zop 36 21 = some (.iconst 1, 1) := by decide +kernel
theorem zd36_22 : zop 36 22 = some (.isub, 1) := by decide +kernel
theorem zd36_23 : zop 36 23 = some (.invokestatic 59, 3) := by decide +kernel
theorem zd36_26 : zop 36 26 = some (.ifCond .ne 6, 3) := by decide +kernel
theorem zd36_29 : zop 36 29 = some (.bipush (-2), 2) := by decide +kernel
theorem zd36_31 : zop 36 31 = some (.ireturn, 1) := by decide +kernel
theorem zd36_32 : zop 36 32 = some (.aload_n 0, 1) := by decide +kernel
theorem zd36_33 : zop 36 33 = some (.getfield 10, 3) := by decide +kernel
theorem zd36_36 : zop 36 36 = some (.iload_n 1, 1) := by decide +kernel
theorem zd36_37 : zop 36 37 = some (.iload_n 2, 1) := by decide +kernel
theorem zd36_38 : zop 36 38 = some (.invokevirtual 122, 3) := by decide +kernel
theorem zd36_41 : zop 36 41 = some (.ireturn, 1) := by decide +kernel
theorem b36_0 {x : zXs} {F : zF} (hF : zSh F) {d : Nat} {V : Nat → Nat → Int32} {T : Nat → Nat → Int64} {Q : Option Value → zG → Prop} {l1 : Int32} {o2 : Option Value}   (k : E x F d 12 0 [some (.ref 1), some (.int l1)] [] (V, T) (fun r G' => E x F (d + 1) 36 8 [some (.ref 0), some (.int l1), o2] (r.toList ++ []) G' Q)) : E x F (d + 1) 36 0 [some (.ref 0), some (.int l1), o2] [] (V, T) Q := by
  refine e_aload_n zd36_0 rfl rfl ?_
  refine e_getO zd36_1 (own := 7) (ci := 7) (kf := 0) (w := 297) (by decide +kernel) (by decide +kernel) (zsh_at hF rfl).1 (by decide +kernel) rfl (zrf_at hF (i := 0) rfl) ?_
  refine e_iload_n zd36_4 rfl ?_
  exact e_callV zd36_5 (own := 7) (nest := false) (w := 329) (by decide +kernel) (by decide +kernel) zs12 (as := [.int l1]) (rest := []) rfl rfl (zsh_at hF rfl).1 (by omega) (Nat.le_of_ble_eq_true rfl) rfl rfl rfl (by omega) k
theorem b36_8 {x : zXs} {F : zF} (hF : zSh F) {d : Nat} {V : Nat → Nat → Int32} {T : Nat → Nat → Int64} {Q : Option Value → zG → Prop} {o0 : Option Value} {o1 : Option Value} {o2 : Option Value} {s0 : Int32}   (kt : s0 = 0 → E x F d 36 29 [o0, o1, o2] [] (V, T) Q) (kf : ¬ (s0 = 0) → E x F d 36 11 [o0, o1, o2] [] (V, T) Q) : E x F d 36 8 [o0, o1, o2] [.int s0] (V, T) Q := by
  exact e_if_eq zd36_8 (tg := 29) rfl kt kf
theorem b36_11 {x : zXs} {F : zF} (hF : zSh F) {d : Nat} {V : Nat → Nat → Int32} {T : Nat → Nat → Int64} {Q : Option Value → zG → Prop} {l1 : Int32} {l2 : Int32}   (k : E x F d 32 0 [some (.ref 1), some (.int l1), none, none] [] (V, T) (fun r G' => E x F (d + 1) 36 21 [some (.ref 0), some (.int l1), some (.int l2)] (r.toList ++ [.int (Int32.ofInt 0), .int l2]) G' Q)) : E x F (d + 1) 36 11 [some (.ref 0), some (.int l1), some (.int l2)] [] (V, T) Q := by
  refine e_iload_n zd36_11 rfl ?_
  refine e_iconst zd36_12 ?_
  refine e_aload_n zd36_13 rfl rfl ?_
  refine e_getO zd36_14 (own := 7) (ci := 7) (kf := 0) (w := 297) (by decide +kernel) (by decide +kernel) (zsh_at hF rfl).1 (by decide +kernel) rfl (zrf_at hF (i := 0) rfl) ?_
  refine e_iload_n zd36_17 rfl ?_
  exact e_callV zd36_18 (own := 7) (nest := false) (w := 411) (by decide +kernel) (by decide +kernel) zs32 (as := [.int l1]) (rest := [.int (Int32.ofInt 0), .int l2]) rfl rfl (zsh_at hF rfl).1 (by omega) (Nat.le_of_ble_eq_true rfl) rfl rfl rfl (by omega) k
theorem b36_21 {x : zXs} {F : zF} (hF : zSh F) {d : Nat} {V : Nat → Nat → Int32} {T : Nat → Nat → Int64} {Q : Option Value → zG → Prop} {o0 : Option Value} {o1 : Option Value} {o2 : Option Value} {s0 : Int32} {s1 : Int32} {s2 : Int32}   (k : E x F d 7 0 [some (.int s0), some (.int s1), some (.int (s2 - (Int32.ofInt 1)))] [] (V, T) (fun r G' => E x F (d + 1) 36 26 [o0, o1, o2] (r.toList ++ []) G' Q)) : E x F (d + 1) 36 21 [o0, o1, o2] [.int s2, .int s1, .int s0] (V, T) Q := by
  refine e_iconst zd36_21 ?_
  refine e_isub zd36_22 ?_
  exact e_callS zd36_23 (own := 7) (nest := false) (w := 334) (by decide +kernel) (by decide +kernel) zs7 (as := [.int s0, .int s1, .int (s2 - (Int32.ofInt 1))]) (rest := []) rfl rfl (Nat.le_of_ble_eq_true rfl) rfl rfl rfl (by omega) k
theorem b36_26 {x : zXs} {F : zF} (hF : zSh F) {d : Nat} {V : Nat → Nat → Int32} {T : Nat → Nat → Int64} {Q : Option Value → zG → Prop} {o0 : Option Value} {o1 : Option Value} {o2 : Option Value} {s0 : Int32}   (kt : ¬ s0 = 0 → E x F d 36 32 [o0, o1, o2] [] (V, T) Q) (kf : ¬ (¬ s0 = 0) → E x F d 36 29 [o0, o1, o2] [] (V, T) Q) : E x F d 36 26 [o0, o1, o2] [.int s0] (V, T) Q := by
  exact e_if_ne zd36_26 (tg := 32) rfl kt kf
theorem b36_29 {x : zXs} {F : zF} (hF : zSh F) {d : Nat} {V : Nat → Nat → Int32} {T : Nat → Nat → Int64} {Q : Option Value → zG → Prop} {o0 : Option Value} {o1 : Option Value} {o2 : Option Value}   (k : Q (some (.int (Int32.ofInt (-2)))) (V, T)) : E x F d 36 29 [o0, o1, o2] [] (V, T) Q := by
  refine e_bipush zd36_29 (v := Int32.ofInt (-2)) (by decide +kernel) ?_
  exact e_ireti zd36_31 zs36 k
theorem b36_32 {x : zXs} {F : zF} (hF : zSh F) {d : Nat} {V : Nat → Nat → Int32} {T : Nat → Nat → Int64} {Q : Option Value → zG → Prop} {l1 : Int32} {l2 : Int32}   (k : E x F d 34 0 [some (.ref 1), some (.int l1), some (.int l2), none, none, none, none, none, none] [] (V, T) (fun r G' => E x F (d + 1) 36 41 [some (.ref 0), some (.int l1), some (.int l2)] (r.toList ++ []) G' Q)) : E x F (d + 1) 36 32 [some (.ref 0), some (.int l1), some (.int l2)] [] (V, T) Q := by
  refine e_aload_n zd36_32 rfl rfl ?_
  refine e_getO zd36_33 (own := 7) (ci := 7) (kf := 0) (w := 297) (by decide +kernel) (by decide +kernel) (zsh_at hF rfl).1 (by decide +kernel) rfl (zrf_at hF (i := 0) rfl) ?_
  refine e_iload_n zd36_36 rfl ?_
  refine e_iload_n zd36_37 rfl ?_
  exact e_callV zd36_38 (own := 7) (nest := false) (w := 436) (by decide +kernel) (by decide +kernel) zs34 (as := [.int l1, .int l2]) (rest := []) rfl rfl (zsh_at hF rfl).1 (by omega) (Nat.le_of_ble_eq_true rfl) rfl rfl rfl (by omega) k
theorem b36_41 {x : zXs} {F : zF} (hF : zSh F) {d : Nat} {V : Nat → Nat → Int32} {T : Nat → Nat → Int64} {Q : Option Value → zG → Prop} {o0 : Option Value} {o1 : Option Value} {o2 : Option Value} {s0 : Int32}   (k : Q (some (.int s0)) (V, T)) : E x F d 36 41 [o0, o1, o2] [.int s0] (V, T) Q := by
  exact e_ireti zd36_41 zs36 k
theorem zd37_0 : zop 37 0 = some (.aload_n 0, 1) := by decide +kernel
theorem zd37_1 : zop 37 1 = some (.getfield 10, 3) := by decide +kernel
theorem zd37_4 : zop 37 4 = some (.iload_n 1, 1) := by decide +kernel
theorem zd37_5 : zop 37 5 = some (.invokevirtual 91, 3) := by decide +kernel
theorem zd37_8 : zop 37 8 = some (.ifCond .eq 13, 3) := by decide +kernel
theorem zd37_11 : zop 37 11 = some (.iload_n 2, 1) := by decide +kernel
theorem zd37_12 : zop 37 12 = some (.iconst 1, 1) := by decide +kernel
theorem zd37_13 : zop 37 13 = some (.bipush 24, 2) := by decide +kernel
theorem zd37_15 : zop 37 15 = some (.invokestatic 59, 3) := by decide +kernel
theorem zd37_18 : zop 37 18 = some (.ifCond .ne 6, 3) := by decide +kernel
theorem zd37_21 : zop 37 21 = some (.bipush (-100), 2) := by decide +kernel
theorem zd37_23 : zop 37 23 = some (.ireturn, 1) := by decide +kernel
theorem zd37_24 : zop 37 24 = some (.aload_n 0, 1) := by decide +kernel
theorem zd37_25 : zop 37 25 = some (.getfield 25, 3) := by decide +kernel
theorem zd37_28 : zop 37 28 = some (.aload_n 0, 1) := by decide +kernel
theorem zd37_29 : zop 37 29 = some (.getfield 10, 3) := by decide +kernel
theorem zd37_32 : zop 37 32 = some (.iload_n 1, 1) := by decide +kernel
theorem zd37_33 : zop 37 33 = some (.iload_n 2, 1) := by decide +kernel
theorem zd37_34 : zop 37 34 = some (.aload_n 0, 1) := by decide +kernel
theorem zd37_35 : zop 37 35 = some (.getfield 33, 3) := by decide +kernel
theorem zd37_38 : zop 37 38 = some (.aload_n 0, 1) := by decide +kernel
theorem zd37_39 : zop 37 39 = some (.getfield 10, 3) := by decide +kernel
theorem zd37_42 : zop 37 42 = some (.iload_n 1, 1) := by decide +kernel
theorem zd37_43 : zop 37 43 = some (.iload_n 2, 1) := by decide +kernel
theorem zd37_44 : zop 37 44 = some (.iconst 0, 1) := by decide +kernel
theorem zd37_45 : zop 37 45 = some (.bipush 24, 2) := by decide +kernel
theorem zd37_47 : zop 37 47 = some (.invokevirtual 125, 3) := by decide +kernel
theorem zd37_50 : zop 37 50 = some (.invokevirtual 129, 3) := by decide +kernel
theorem zd37_53 : zop 37 53 = some (.ireturn, 1) := by decide +kernel
theorem b37_0 {x : zXs} {F : zF} (hF : zSh F) {d : Nat} {V : Nat → Nat → Int32} {T : Nat → Nat → Int64} {Q : Option Value → zG → Prop} {l1 : Int32} {o2 : Option Value}   (k : E x F d 19 0 [some (.ref 1), some (.int l1)] [] (V, T) (fun r G' => E x F (d + 1) 37 8 [some (.ref 0), some (.int l1), o2] (r.toList ++ []) G' Q)) : E x F (d + 1) 37 0 [some (.ref 0), some (.int l1), o2] [] (V, T) Q := by
  refine e_aload_n zd37_0 rfl rfl ?_
  refine e_getO zd37_1 (own := 7) (ci := 7) (kf := 0) (w := 297) (by decide +kernel) (by decide +kernel) (zsh_at hF rfl).1 (by decide +kernel) rfl (zrf_at hF (i := 0) rfl) ?_
  refine e_iload_n zd37_4 rfl ?_
  exact e_callV zd37_5 (own := 7) (nest := false) (w := 361) (by decide +kernel) (by decide +kernel) zs19 (as := [.int l1]) (rest := []) rfl rfl (zsh_at hF rfl).1 (by omega) (Nat.le_of_ble_eq_true rfl) rfl rfl rfl (by omega) k
theorem b37_8 {x : zXs} {F : zF} (hF : zSh F) {d : Nat} {V : Nat → Nat → Int32} {T : Nat → Nat → Int64} {Q : Option Value → zG → Prop} {o0 : Option Value} {o1 : Option Value} {o2 : Option Value} {s0 : Int32}   (kt : s0 = 0 → E x F d 37 21 [o0, o1, o2] [] (V, T) Q) (kf : ¬ (s0 = 0) → E x F d 37 11 [o0, o1, o2] [] (V, T) Q) : E x F d 37 8 [o0, o1, o2] [.int s0] (V, T) Q := by
  exact e_if_eq zd37_8 (tg := 21) rfl kt kf
theorem b37_11 {x : zXs} {F : zF} (hF : zSh F) {d : Nat} {V : Nat → Nat → Int32} {T : Nat → Nat → Int64} {Q : Option Value → zG → Prop} {o0 : Option Value} {o1 : Option Value} {l2 : Int32}   (k : E x F d 7 0 [some (.int l2), some (.int (Int32.ofInt 1)), some (.int (Int32.ofInt 24))] [] (V, T) (fun r G' => E x F (d + 1) 37 18 [o0, o1, some (.int l2)] (r.toList ++ []) G' Q)) : E x F (d + 1) 37 11 [o0, o1, some (.int l2)] [] (V, T) Q := by
  refine e_iload_n zd37_11 rfl ?_
  refine e_iconst zd37_12 ?_
  refine e_bipush zd37_13 (v := Int32.ofInt 24) (by decide +kernel) ?_
  exact e_callS zd37_15 (own := 7) (nest := false) (w := 334) (by decide +kernel) (by decide +kernel) zs7 (as := [.int l2, .int (Int32.ofInt 1), .int (Int32.ofInt 24)]) (rest := []) rfl rfl (Nat.le_of_ble_eq_true rfl) rfl rfl rfl (by omega) k
theorem b37_18 {x : zXs} {F : zF} (hF : zSh F) {d : Nat} {V : Nat → Nat → Int32} {T : Nat → Nat → Int64} {Q : Option Value → zG → Prop} {o0 : Option Value} {o1 : Option Value} {o2 : Option Value} {s0 : Int32}   (kt : ¬ s0 = 0 → E x F d 37 24 [o0, o1, o2] [] (V, T) Q) (kf : ¬ (¬ s0 = 0) → E x F d 37 21 [o0, o1, o2] [] (V, T) Q) : E x F d 37 18 [o0, o1, o2] [.int s0] (V, T) Q := by
  exact e_if_ne zd37_18 (tg := 24) rfl kt kf
theorem b37_21 {x : zXs} {F : zF} (hF : zSh F) {d : Nat} {V : Nat → Nat → Int32} {T : Nat → Nat → Int64} {Q : Option Value → zG → Prop} {o0 : Option Value} {o1 : Option Value} {o2 : Option Value}   (k : Q (some (.int (Int32.ofInt (-100)))) (V, T)) : E x F d 37 21 [o0, o1, o2] [] (V, T) Q := by
  refine e_bipush zd37_21 (v := Int32.ofInt (-100)) (by decide +kernel) ?_
  exact e_ireti zd37_23 zs37 k
theorem b37_24 {x : zXs} {F : zF} (hF : zSh F) {d : Nat} {V : Nat → Nat → Int32} {T : Nat → Nat → Int64} {Q : Option Value → zG → Prop} {l1 : Int32} {l2 : Int32}   (k : E x F d 38 0 [some (.ref 20), some (.ref 1), some (.int l1), some (.int l2), some (.int (Int32.ofInt 0)), some (.int (Int32.ofInt 24))] [] (V, T) (fun r G' => E x F (d + 1) 37 50 [some (.ref 0), some (.int l1), some (.int l2)] (r.toList ++ [.int l2, .int l1, .ref 1, .ref 19]) G' Q)) : E x F (d + 1) 37 24 [some (.ref 0), some (.int l1), some (.int l2)] [] (V, T) Q := by
  refine e_aload_n zd37_24 rfl rfl ?_
  refine e_getO zd37_25 (own := 7) (ci := 7) (kf := 3) (w := 300) (by decide +kernel) (by decide +kernel) (zsh_at hF rfl).1 (by decide +kernel) rfl (zrf_at hF (i := 3) rfl) ?_
  refine e_aload_n zd37_28 rfl rfl ?_
  refine e_getO zd37_29 (own := 7) (ci := 7) (kf := 0) (w := 297) (by decide +kernel) (by decide +kernel) (zsh_at hF rfl).1 (by decide +kernel) rfl (zrf_at hF (i := 0) rfl) ?_
  refine e_iload_n zd37_32 rfl ?_
  refine e_iload_n zd37_33 rfl ?_
  refine e_aload_n zd37_34 rfl rfl ?_
  refine e_getO zd37_35 (own := 7) (ci := 7) (kf := 4) (w := 301) (by decide +kernel) (by decide +kernel) (zsh_at hF rfl).1 (by decide +kernel) rfl (zrf_at hF (i := 4) rfl) ?_
  refine e_aload_n zd37_38 rfl rfl ?_
  refine e_getO zd37_39 (own := 7) (ci := 7) (kf := 0) (w := 297) (by decide +kernel) (by decide +kernel) (zsh_at hF rfl).1 (by decide +kernel) rfl (zrf_at hF (i := 0) rfl) ?_
  refine e_iload_n zd37_42 rfl ?_
  refine e_iload_n zd37_43 rfl ?_
  refine e_iconst zd37_44 ?_
  refine e_bipush zd37_45 (v := Int32.ofInt 24) (by decide +kernel) ?_
  exact e_callV zd37_47 (own := 7) (nest := false) (w := 441) (by decide +kernel) (by decide +kernel) zs38 (as := [.ref 1, .int l1, .int l2, .int (Int32.ofInt 0), .int (Int32.ofInt 24)]) (rest := [.int l2, .int l1, .ref 1, .ref 19]) rfl rfl (zsh_at hF rfl).1 (by omega) (Nat.le_of_ble_eq_true rfl) rfl rfl rfl (by omega) k
theorem b37_50 {x : zXs} {F : zF} (hF : zSh F) {d : Nat} {V : Nat → Nat → Int32} {T : Nat → Nat → Int64} {Q : Option Value → zG → Prop} {o0 : Option Value} {o1 : Option Value} {o2 : Option Value} {s1 : Nat} {s2 : Int32} {s3 : Int32} {s4 : Int32} (hs1 : zSt s1)  (k : E x F d 39 0 [some (.ref 19), some (.ref s1), some (.int s2), some (.int s3), some (.int s4), none] [] (V, T) (fun r G' => E x F (d + 1) 37 53 [o0, o1, o2] (r.toList ++ []) G' Q)) : E x F (d + 1) 37 50 [o0, o1, o2] [.int s4, .int s3, .int s2, .ref s1, .ref 19] (V, T) Q := by
  exact e_callV zd37_50 (own := 7) (nest := false) (w := 445) (by decide +kernel) (by decide +kernel) zs39 (as := [.ref s1, .int s2, .int s3, .int s4]) (rest := []) rfl rfl (zsh_at hF rfl).1 (by omega) (Nat.le_of_ble_eq_true rfl) rfl rfl rfl (by omega) k
theorem b37_53 {x : zXs} {F : zF} (hF : zSh F) {d : Nat} {V : Nat → Nat → Int32} {T : Nat → Nat → Int64} {Q : Option Value → zG → Prop} {o0 : Option Value} {o1 : Option Value} {o2 : Option Value} {s0 : Int32}   (k : Q (some (.int s0)) (V, T)) : E x F d 37 53 [o0, o1, o2] [.int s0] (V, T) Q := by
  exact e_ireti zd37_53 zs37 k
theorem zd38_0 : zop 38 0 = some (.aload_n 0, 1) := by decide +kernel
theorem zd38_1 : zop 38 1 = some (.aload_n 1, 1) := by decide +kernel
theorem zd38_2 : zop 38 2 = some (.iload_n 2, 1) := by decide +kernel
theorem zd38_3 : zop 38 3 = some (.invokevirtual 40, 3) := by decide +kernel
theorem zd38_6 : zop 38 6 = some (.aload_n 0, 1) := by decide +kernel
theorem zd38_7 : zop 38 7 = some (.getfield 17, 3) := by decide +kernel
theorem zd38_10 : zop 38 10 = some (.iconst 0, 1) := by decide +kernel
theorem zd38_11 : zop 38 11 = some (.iload_n 3, 1) := by decide +kernel
theorem zd38_12 : zop 38 12 = some (.iastore, 1) := by decide +kernel
theorem zd38_13 : zop 38 13 = some (.aload_n 0, 1) := by decide +kernel
theorem zd38_14 : zop 38 14 = some (.getfield 17, 3) := by decide +kernel
theorem zd38_17 : zop 38 17 = some (.iconst 1, 1) := by decide +kernel
theorem zd38_18 : zop 38 18 = some (.iload 4, 2) := by decide +kernel
theorem zd38_20 : zop 38 20 = some (.iastore, 1) := by decide +kernel
theorem zd38_21 : zop 38 21 = some (.aload_n 0, 1) := by decide +kernel
theorem zd38_22 : zop 38 22 = some (.getfield 17, 3) := by decide +kernel
theorem zd38_25 : zop 38 25 = some (.iconst 5, 1) := by decide +kernel
theorem zd38_26 : zop 38 26 = some (.iload 5, 2) := by decide +kernel
theorem zd38_28 : zop 38 28 = some (.iastore, 1) := by decide +kernel
theorem zd38_29 : zop 38 29 = some (.aload_n 0, 1) := by decide +kernel
theorem zd38_30 : zop 38 30 = some (.aload_n 1, 1) := by decide +kernel
theorem zd38_31 : zop 38 31 = some (.getfield 44, 3) := by decide +kernel
theorem zd38_34 : zop 38 34 = some (.iconst 0, 1) := by decide +kernel
theorem zd38_35 : zop 38 35 = some (.invokevirtual 49, 3) := by decide +kernel
theorem zd38_38 : zop 38 38 = some (.iconst 0, 1) := by decide +kernel
theorem zd38_39 : zop 38 39 = some (.bipush 99, 2) := by decide +kernel
theorem zd38_41 : zop 38 41 = some (.invokestatic 53, 3) := by decide +kernel
theorem zd38_44 : zop 38 44 = some (.ireturn, 1) := by decide +kernel
theorem b38_0 {x : zXs} {F : zF} (hF : zSh F) {d : Nat} {V : Nat → Nat → Int32} {T : Nat → Nat → Int64} {Q : Option Value → zG → Prop} {l1 : Nat} {l2 : Int32} {o3 : Option Value} {o4 : Option Value} {o5 : Option Value} (hl1 : zSt l1)  (k : E x F d 26 0 [some (.ref 20), some (.ref l1), some (.int l2)] [] (V, T) (fun r G' => E x F (d + 1) 38 6 [some (.ref 20), some (.ref l1), some (.int l2), o3, o4, o5] (r.toList ++ []) G' Q)) : E x F (d + 1) 38 0 [some (.ref 20), some (.ref l1), some (.int l2), o3, o4, o5] [] (V, T) Q := by
  refine e_aload_n zd38_0 rfl rfl ?_
  refine e_aload_n zd38_1 rfl rfl ?_
  refine e_iload_n zd38_2 rfl ?_
  exact e_callV zd38_3 (own := 2) (nest := false) (w := 389) (by decide +kernel) (by decide +kernel) zs26 (as := [.ref l1, .int l2]) (rest := []) rfl rfl (zsh_at hF rfl).1 (by omega) (Nat.le_of_ble_eq_true rfl) rfl rfl rfl (by omega) k
theorem b38_6 {x : zXs} {F : zF} (hF : zSh F) {d : Nat} {V : Nat → Nat → Int32} {T : Nat → Nat → Int64} {Q : Option Value → zG → Prop} {l1 : Nat} {o2 : Option Value} {l3 : Int32} {l4 : Int32} {l5 : Int32} (hl1 : zSt l1)  (k : E x F d 27 0 [some (.ref 20), some (.int ((zu (zu (zu V 22 0 l3) 22 1 l4) 22 5 l5) l1 7)), some (.int (Int32.ofInt 0)), none, none, none, none, none, none] [] (zu (zu (zu V 22 0 l3) 22 1 l4) 22 5 l5, T) (fun r G' => E x F (d + 1) 38 38 [some (.ref 20), some (.ref l1), o2, some (.int l3), some (.int l4), some (.int l5)] (r.toList ++ []) G' Q)) : E x F (d + 1) 38 6 [some (.ref 20), some (.ref l1), o2, some (.int l3), some (.int l4), some (.int l5)] [] (V, T) Q := by
  refine e_aload_n zd38_6 rfl rfl ?_
  refine e_getA zd38_7 (own := 2) (ci := 2) (kf := 1) (w := 198) (by decide +kernel) (by decide +kernel) (zsh_at hF rfl).1 (by decide +kernel) rfl (zrf_at hF (i := 26) rfl) ?_
  refine e_iconst zd38_10 ?_
  refine e_iload_n zd38_11 rfl ?_
  refine e_iast zd38_12 (i := 0) (zsh_at hF rfl) rfl (by omega) (by omega) ?_
  refine e_aload_n zd38_13 rfl rfl ?_
  refine e_getA zd38_14 (own := 2) (ci := 2) (kf := 1) (w := 198) (by decide +kernel) (by decide +kernel) (zsh_at hF rfl).1 (by decide +kernel) rfl (zrf_at hF (i := 26) rfl) ?_
  refine e_iconst zd38_17 ?_
  refine e_iload zd38_18 rfl ?_
  refine e_iast zd38_20 (i := 1) (zsh_at hF rfl) rfl (by omega) (by omega) ?_
  refine e_aload_n zd38_21 rfl rfl ?_
  refine e_getA zd38_22 (own := 2) (ci := 2) (kf := 1) (w := 198) (by decide +kernel) (by decide +kernel) (zsh_at hF rfl).1 (by decide +kernel) rfl (zrf_at hF (i := 26) rfl) ?_
  refine e_iconst zd38_25 ?_
  refine e_iload zd38_26 rfl ?_
  refine e_iast zd38_28 (i := 5) (zsh_at hF rfl) rfl (by omega) (by omega) ?_
  refine e_aload_n zd38_29 rfl rfl ?_
  refine e_aload_n zd38_30 rfl rfl ?_
  refine e_getI zd38_31 (own := 2) (ci := 4) (kf := 7) (w := 135) (by decide +kernel) (by decide +kernel) (zSt_s hF hl1).1 (by decide +kernel) rfl ?_
  refine e_iconst zd38_34 ?_
  exact e_callV zd38_35 (own := 2) (nest := false) (w := 393) (by decide +kernel) (by decide +kernel) zs27 (as := [.int ((zu (zu (zu V 22 0 l3) 22 1 l4) 22 5 l5) l1 7), .int (Int32.ofInt 0)]) (rest := []) rfl rfl (zsh_at hF rfl).1 (by omega) (Nat.le_of_ble_eq_true rfl) rfl rfl rfl (by omega) k
theorem b38_38 {x : zXs} {F : zF} (hF : zSh F) {d : Nat} {V : Nat → Nat → Int32} {T : Nat → Nat → Int64} {Q : Option Value → zG → Prop} {o0 : Option Value} {o1 : Option Value} {o2 : Option Value} {o3 : Option Value} {o4 : Option Value} {o5 : Option Value} {s0 : Int32}   (k : E x F d 30 0 [some (.int s0), some (.int (Int32.ofInt 0)), some (.int (Int32.ofInt 99))] [] (V, T) (fun r G' => E x F (d + 1) 38 44 [o0, o1, o2, o3, o4, o5] (r.toList ++ []) G' Q)) : E x F (d + 1) 38 38 [o0, o1, o2, o3, o4, o5] [.int s0] (V, T) Q := by
  refine e_iconst zd38_38 ?_
  refine e_bipush zd38_39 (v := Int32.ofInt 99) (by decide +kernel) ?_
  exact e_callS zd38_41 (own := 2) (nest := true) (w := 403) (by decide +kernel) (by decide +kernel) zs30 (as := [.int s0, .int (Int32.ofInt 0), .int (Int32.ofInt 99)]) (rest := []) rfl rfl (Nat.le_of_ble_eq_true rfl) rfl rfl rfl (by omega) k
theorem b38_44 {x : zXs} {F : zF} (hF : zSh F) {d : Nat} {V : Nat → Nat → Int32} {T : Nat → Nat → Int64} {Q : Option Value → zG → Prop} {o0 : Option Value} {o1 : Option Value} {o2 : Option Value} {o3 : Option Value} {o4 : Option Value} {o5 : Option Value} {s0 : Int32}   (k : Q (some (.int s0)) (V, T)) : E x F d 38 44 [o0, o1, o2, o3, o4, o5] [.int s0] (V, T) Q := by
  exact e_ireti zd38_44 zs38 k
theorem zd39_0 : zop 39 0 = some (.aload_n 1, 1) := by decide +kernel
theorem zd39_1 : zop 39 1 = some (.getfield 22, 3) := by decide +kernel
theorem zd39_4 : zop 39 4 = some (.iload_n 2, 1) := by decide +kernel
theorem zd39_5 : zop 39 5 = some (.iaload, 1) := by decide +kernel
theorem zd39_6 : zop 39 6 = some (.istore 5, 2) := by decide +kernel
theorem zd39_8 : zop 39 8 = some (.aload_n 1, 1) := by decide +kernel
theorem zd39_9 : zop 39 9 = some (.getfield 27, 3) := by decide +kernel
theorem zd39_12 : zop 39 12 = some (.iload_n 2, 1) := by decide +kernel
theorem zd39_13 : zop 39 13 = some (.iaload, 1) := by decide +kernel
theorem zd39_14 : zop 39 14 = some (.tableswitch 98 1 5 #[34, 46, 48, 69, 88], 34) := by decide +kernel
theorem zd39_48 : zop 39 48 = some (.iload_n 3, 1) := by decide +kernel
theorem zd39_49 : zop 39 49 = some (.iload 4, 2) := by decide +kernel
theorem zd39_51 : zop 39 51 = some (.invokestatic 30, 3) := by decide +kernel
theorem zd39_54 : zop 39 54 = some (.iconst 0, 1) := by decide +kernel
theorem zd39_55 : zop 39 55 = some (.iload_n 3, 1) := by decide +kernel
theorem zd39_56 : zop 39 56 = some (.invokestatic 34, 3) := by decide +kernel
theorem zd39_59 : zop 39 59 = some (.ireturn, 1) := by decide +kernel
theorem zd39_60 : zop 39 60 = some (.iload_n 3, 1) := by decide +kernel
theorem zd39_61 : zop 39 61 = some (.ireturn, 1) := by decide +kernel
theorem zd39_62 : zop 39 62 = some (.iload_n 3, 1) := by decide +kernel
theorem zd39_63 : zop 39 63 = some (.iconst 1, 1) := by decide +kernel
theorem zd39_64 : zop 39 64 = some (.if_icmp .ne 7, 3) := by decide +kernel
theorem zd39_67 : zop 39 67 = some (.iconst 0, 1) := by decide +kernel
theorem zd39_68 : zop 39 68 = some (.goto 14, 3) := by decide +kernel
theorem zd39_71 : zop 39 71 = some (.iload_n 3, 1) := by decide +kernel
theorem zd39_72 : zop 39 72 = some (.iload 4, 2) := by decide +kernel
theorem zd39_74 : zop 39 74 = some (.invokestatic 30, 3) := by decide +kernel
theorem zd39_77 : zop 39 77 = some (.iconst 0, 1) := by decide +kernel
theorem zd39_78 : zop 39 78 = some (.iload_n 3, 1) := by decide +kernel
theorem zd39_79 : zop 39 79 = some (.invokestatic 34, 3) := by decide +kernel
theorem zd39_82 : zop 39 82 = some (.ireturn, 1) := by decide +kernel
theorem zd39_83 : zop 39 83 = some (.aload_n 1, 1) := by decide +kernel
theorem zd39_84 : zop 39 84 = some (.getfield 38, 3) := by decide +kernel
theorem zd39_87 : zop 39 87 = some (.iload_n 2, 1) := by decide +kernel
theorem zd39_88 : zop 39 88 = some (.iaload, 1) := by decide +kernel
theorem zd39_89 : zop 39 89 = some (.iload 5, 2) := by decide +kernel
theorem zd39_91 : zop 39 91 = some (.if_icmp .lt 9, 3) := by decide +kernel
theorem zd39_94 : zop 39 94 = some (.iload 5, 2) := by decide +kernel
theorem zd39_96 : zop 39 96 = some (.ineg, 1) := by decide +kernel
theorem zd39_97 : zop 39 97 = some (.goto 4, 3) := by decide +kernel
theorem zd39_100 : zop 39 100 = some (.iload_n 3, 1) := by decide +kernel
theorem zd39_101 : zop 39 101 = some (.ireturn, 1) := by decide +kernel
theorem zd39_102 : zop 39 102 = some (.iload 4, 2) := by decide +kernel
theorem zd39_104 : zop 39 104 = some (.iconst 2, 1) := by decide +kernel
theorem zd39_105 : zop 39 105 = some (.idiv, 1) := by decide +kernel
theorem zd39_106 : zop 39 106 = some (.iconst 0, 1) := by decide +kernel
theorem zd39_107 : zop 39 107 = some (.iload_n 3, 1) := by decide +kernel
theorem zd39_108 : zop 39 108 = some (.invokestatic 34, 3) := by decide +kernel
theorem zd39_111 : zop 39 111 = some (.ireturn, 1) := by decide +kernel
theorem zd39_112 : zop 39 112 = some (.iload 4, 2) := by decide +kernel
theorem zd39_114 : zop 39 114 = some (.iconst 0, 1) := by decide +kernel
theorem zd39_115 : zop 39 115 = some (.iload_n 3, 1) := by decide +kernel
theorem zd39_116 : zop 39 116 = some (.invokestatic 34, 3) := by decide +kernel
theorem zd39_119 : zop 39 119 = some (.ireturn, 1) := by decide +kernel
theorem b39_0 {x : zXs} {F : zF} (hF : zSh F) {d : Nat} {V : Nat → Nat → Int32} {T : Nat → Nat → Int64} {Q : Option Value → zG → Prop} {o0 : Option Value} {l1 : Nat} {l2 : Int32} {o3 : Option Value} {o4 : Option Value} {o5 : Option Value} (hl1 : zSt l1) {i1 : Nat} (e1 : l2 = nI i1) (h1 : i1 < 5) {i2 : Nat} (e2 : l2 = nI i2) (h2 : i2 < 5) (k0 : (V (l1 + 3) i2) = Int32.ofInt 1 → E x F d 39 48 [o0, some (.ref l1), some (.int l2), o3, o4, some (.int (V (l1 + 4) i1))] [] (V, T) Q) (k1 : (V (l1 + 3) i2) = Int32.ofInt 2 → E x F d 39 60 [o0, some (.ref l1), some (.int l2), o3, o4, some (.int (V (l1 + 4) i1))] [] (V, T) Q) (k2 : (V (l1 + 3) i2) = Int32.ofInt 3 → E x F d 39 62 [o0, some (.ref l1), some (.int l2), o3, o4, some (.int (V (l1 + 4) i1))] [] (V, T) Q) (k3 : (V (l1 + 3) i2) = Int32.ofInt 4 → E x F d 39 83 [o0, some (.ref l1), some (.int l2), o3, o4, some (.int (V (l1 + 4) i1))] [] (V, T) Q) (k4 : (V (l1 + 3) i2) = Int32.ofInt 5 → E x F d 39 102 [o0, some (.ref l1), some (.int l2), o3, o4, some (.int (V (l1 + 4) i1))] [] (V, T) Q) (kd : ¬ (V (l1 + 3) i2) = Int32.ofInt 1 ∧ ¬ (V (l1 + 3) i2) = Int32.ofInt 2 ∧ ¬ (V (l1 + 3) i2) = Int32.ofInt 3 ∧ ¬ (V (l1 + 3) i2) = Int32.ofInt 4 ∧ ¬ (V (l1 + 3) i2) = Int32.ofInt 5 → E x F d 39 112 [o0, some (.ref l1), some (.int l2), o3, o4, some (.int (V (l1 + 4) i1))] [] (V, T) Q) : E x F d 39 0 [o0, some (.ref l1), some (.int l2), o3, o4, o5] [] (V, T) Q := by
  refine e_aload_n zd39_0 rfl rfl ?_
  refine e_getA zd39_1 (own := 0) (ci := 4) (kf := 3) (w := 120) (by decide +kernel) (by decide +kernel) (zSt_s hF hl1).1 (by decide +kernel) rfl (zSt_f3 hF hl1) ?_
  refine e_iload_n zd39_4 rfl ?_
  refine e_iald zd39_5 (i := i1) (zSt_a3 hF hl1) e1 h1 (by omega) ?_
  refine e_istore zd39_6 (by decide +kernel) (Nat.le_of_ble_eq_true rfl) ?_
  refine e_aload_n zd39_8 rfl rfl ?_
  refine e_getA zd39_9 (own := 0) (ci := 4) (kf := 2) (w := 117) (by decide +kernel) (by decide +kernel) (zSt_s hF hl1).1 (by decide +kernel) rfl (zSt_f2 hF hl1) ?_
  refine e_iload_n zd39_12 rfl ?_
  refine e_iald zd39_13 (i := i2) (zSt_a2 hF hl1) e2 h2 (by omega) ?_
  by_cases c0 : (V (l1 + 3) i2) = Int32.ofInt 1
  · exact e_tableIn zd39_14 (off := 34) (by rw [c0]; decide +kernel) (by rw [c0]; decide +kernel) (tg := 48) rfl (k0 c0)
  by_cases c1 : (V (l1 + 3) i2) = Int32.ofInt 2
  · exact e_tableIn zd39_14 (off := 46) (by rw [c1]; decide +kernel) (by rw [c1]; decide +kernel) (tg := 60) rfl (k1 c1)
  by_cases c2 : (V (l1 + 3) i2) = Int32.ofInt 3
  · exact e_tableIn zd39_14 (off := 48) (by rw [c2]; decide +kernel) (by rw [c2]; decide +kernel) (tg := 62) rfl (k2 c2)
  by_cases c3 : (V (l1 + 3) i2) = Int32.ofInt 4
  · exact e_tableIn zd39_14 (off := 69) (by rw [c3]; decide +kernel) (by rw [c3]; decide +kernel) (tg := 83) rfl (k3 c3)
  by_cases c4 : (V (l1 + 3) i2) = Int32.ofInt 5
  · exact e_tableIn zd39_14 (off := 88) (by rw [c4]; decide +kernel) (by rw [c4]; decide +kernel) (tg := 102) rfl (k4 c4)
  exact e_tableOut zd39_14 (zsw_out (lo := 1) (hi := 5) (by decide) (by decide) (fun v h1 h2 h => by
    rcases (show v = 1 ∨ v = 2 ∨ v = 3 ∨ v = 4 ∨ v = 5 by omega) with rfl | rfl | rfl | rfl | rfl
    · exact c0 h
    · exact c1 h
    · exact c2 h
    · exact c3 h
    · exact c4 h)) (tg := 112) rfl (kd ⟨c0, c1, c2, c3, c4⟩)
theorem b39_48 {x : zXs} {F : zF} (hF : zSh F) {d : Nat} {V : Nat → Nat → Int32} {T : Nat → Nat → Int64} {Q : Option Value → zG → Prop} {o0 : Option Value} {o1 : Option Value} {o2 : Option Value} {l3 : Int32} {l4 : Int32} {o5 : Option Value}   (k : E x F d 40 0 [some (.int l3), some (.int l4)] [] (V, T) (fun r G' => E x F (d + 1) 39 54 [o0, o1, o2, some (.int l3), some (.int l4), o5] (r.toList ++ []) G' Q)) : E x F (d + 1) 39 48 [o0, o1, o2, some (.int l3), some (.int l4), o5] [] (V, T) Q := by
  refine e_iload_n zd39_48 rfl ?_
  refine e_iload zd39_49 rfl ?_
  exact e_callS zd39_51 (own := 0) (nest := false) (w := 449) (by decide +kernel) (by decide +kernel) zs40 (as := [.int l3, .int l4]) (rest := []) rfl rfl (Nat.le_of_ble_eq_true rfl) rfl rfl rfl (by omega) k
theorem b39_54 {x : zXs} {F : zF} (hF : zSh F) {d : Nat} {V : Nat → Nat → Int32} {T : Nat → Nat → Int64} {Q : Option Value → zG → Prop} {o0 : Option Value} {o1 : Option Value} {o2 : Option Value} {l3 : Int32} {o4 : Option Value} {o5 : Option Value} {s0 : Int32}   (k : E x F d 30 0 [some (.int s0), some (.int (Int32.ofInt 0)), some (.int l3)] [] (V, T) (fun r G' => E x F (d + 1) 39 59 [o0, o1, o2, some (.int l3), o4, o5] (r.toList ++ []) G' Q)) : E x F (d + 1) 39 54 [o0, o1, o2, some (.int l3), o4, o5] [.int s0] (V, T) Q := by
  refine e_iconst zd39_54 ?_
  refine e_iload_n zd39_55 rfl ?_
  exact e_callS zd39_56 (own := 0) (nest := true) (w := 406) (by decide +kernel) (by decide +kernel) zs30 (as := [.int s0, .int (Int32.ofInt 0), .int l3]) (rest := []) rfl rfl (Nat.le_of_ble_eq_true rfl) rfl rfl rfl (by omega) k
theorem b39_59 {x : zXs} {F : zF} (hF : zSh F) {d : Nat} {V : Nat → Nat → Int32} {T : Nat → Nat → Int64} {Q : Option Value → zG → Prop} {o0 : Option Value} {o1 : Option Value} {o2 : Option Value} {o3 : Option Value} {o4 : Option Value} {o5 : Option Value} {s0 : Int32}   (k : Q (some (.int s0)) (V, T)) : E x F d 39 59 [o0, o1, o2, o3, o4, o5] [.int s0] (V, T) Q := by
  exact e_ireti zd39_59 zs39 k
theorem b39_60 {x : zXs} {F : zF} (hF : zSh F) {d : Nat} {V : Nat → Nat → Int32} {T : Nat → Nat → Int64} {Q : Option Value → zG → Prop} {o0 : Option Value} {o1 : Option Value} {o2 : Option Value} {l3 : Int32} {o4 : Option Value} {o5 : Option Value}   (k : Q (some (.int l3)) (V, T)) : E x F d 39 60 [o0, o1, o2, some (.int l3), o4, o5] [] (V, T) Q := by
  refine e_iload_n zd39_60 rfl ?_
  exact e_ireti zd39_61 zs39 k
theorem b39_62 {x : zXs} {F : zF} (hF : zSh F) {d : Nat} {V : Nat → Nat → Int32} {T : Nat → Nat → Int64} {Q : Option Value → zG → Prop} {o0 : Option Value} {o1 : Option Value} {o2 : Option Value} {l3 : Int32} {o4 : Option Value} {o5 : Option Value}   (kt : ¬ l3 = (Int32.ofInt 1) → E x F d 39 71 [o0, o1, o2, some (.int l3), o4, o5] [] (V, T) Q) (kf : ¬ (¬ l3 = (Int32.ofInt 1)) → E x F d 39 67 [o0, o1, o2, some (.int l3), o4, o5] [] (V, T) Q) : E x F d 39 62 [o0, o1, o2, some (.int l3), o4, o5] [] (V, T) Q := by
  refine e_iload_n zd39_62 rfl ?_
  refine e_iconst zd39_63 ?_
  exact e_icmp_ne zd39_64 (tg := 71) rfl kt kf
theorem b39_67 {x : zXs} {F : zF} (hF : zSh F) {d : Nat} {V : Nat → Nat → Int32} {T : Nat → Nat → Int64} {Q : Option Value → zG → Prop} {o0 : Option Value} {o1 : Option Value} {o2 : Option Value} {o3 : Option Value} {o4 : Option Value} {o5 : Option Value}   (k : E x F d 39 82 [o0, o1, o2, o3, o4, o5] [.int (Int32.ofInt 0)] (V, T) Q) : E x F d 39 67 [o0, o1, o2, o3, o4, o5] [] (V, T) Q := by
  refine e_iconst zd39_67 ?_
  exact e_goto zd39_68 (tg := 82) rfl k
theorem b39_71 {x : zXs} {F : zF} (hF : zSh F) {d : Nat} {V : Nat → Nat → Int32} {T : Nat → Nat → Int64} {Q : Option Value → zG → Prop} {o0 : Option Value} {o1 : Option Value} {o2 : Option Value} {l3 : Int32} {l4 : Int32} {o5 : Option Value}   (k : E x F d 40 0 [some (.int l3), some (.int l4)] [] (V, T) (fun r G' => E x F (d + 1) 39 77 [o0, o1, o2, some (.int l3), some (.int l4), o5] (r.toList ++ []) G' Q)) : E x F (d + 1) 39 71 [o0, o1, o2, some (.int l3), some (.int l4), o5] [] (V, T) Q := by
  refine e_iload_n zd39_71 rfl ?_
  refine e_iload zd39_72 rfl ?_
  exact e_callS zd39_74 (own := 0) (nest := false) (w := 449) (by decide +kernel) (by decide +kernel) zs40 (as := [.int l3, .int l4]) (rest := []) rfl rfl (Nat.le_of_ble_eq_true rfl) rfl rfl rfl (by omega) k
theorem b39_77 {x : zXs} {F : zF} (hF : zSh F) {d : Nat} {V : Nat → Nat → Int32} {T : Nat → Nat → Int64} {Q : Option Value → zG → Prop} {o0 : Option Value} {o1 : Option Value} {o2 : Option Value} {l3 : Int32} {o4 : Option Value} {o5 : Option Value} {s0 : Int32}   (k : E x F d 30 0 [some (.int s0), some (.int (Int32.ofInt 0)), some (.int l3)] [] (V, T) (fun r G' => E x F (d + 1) 39 82 [o0, o1, o2, some (.int l3), o4, o5] (r.toList ++ []) G' Q)) : E x F (d + 1) 39 77 [o0, o1, o2, some (.int l3), o4, o5] [.int s0] (V, T) Q := by
  refine e_iconst zd39_77 ?_
  refine e_iload_n zd39_78 rfl ?_
  exact e_callS zd39_79 (own := 0) (nest := true) (w := 406) (by decide +kernel) (by decide +kernel) zs30 (as := [.int s0, .int (Int32.ofInt 0), .int l3]) (rest := []) rfl rfl (Nat.le_of_ble_eq_true rfl) rfl rfl rfl (by omega) k
theorem b39_82 {x : zXs} {F : zF} (hF : zSh F) {d : Nat} {V : Nat → Nat → Int32} {T : Nat → Nat → Int64} {Q : Option Value → zG → Prop} {o0 : Option Value} {o1 : Option Value} {o2 : Option Value} {o3 : Option Value} {o4 : Option Value} {o5 : Option Value} {s0 : Int32}   (k : Q (some (.int s0)) (V, T)) : E x F d 39 82 [o0, o1, o2, o3, o4, o5] [.int s0] (V, T) Q := by
  exact e_ireti zd39_82 zs39 k
theorem b39_83 {x : zXs} {F : zF} (hF : zSh F) {d : Nat} {V : Nat → Nat → Int32} {T : Nat → Nat → Int64} {Q : Option Value → zG → Prop} {o0 : Option Value} {l1 : Nat} {l2 : Int32} {o3 : Option Value} {o4 : Option Value} {l5 : Int32} (hl1 : zSt l1) {i1 : Nat} (e1 : l2 = nI i1) (h1 : i1 < 5) (kt : (V (l1 + 5) i1) < l5 → E x F d 39 100 [o0, some (.ref l1), some (.int l2), o3, o4, some (.int l5)] [] (V, T) Q) (kf : ¬ ((V (l1 + 5) i1) < l5) → E x F d 39 94 [o0, some (.ref l1), some (.int l2), o3, o4, some (.int l5)] [] (V, T) Q) : E x F d 39 83 [o0, some (.ref l1), some (.int l2), o3, o4, some (.int l5)] [] (V, T) Q := by
  refine e_aload_n zd39_83 rfl rfl ?_
  refine e_getA zd39_84 (own := 0) (ci := 4) (kf := 4) (w := 124) (by decide +kernel) (by decide +kernel) (zSt_s hF hl1).1 (by decide +kernel) rfl (zSt_f4 hF hl1) ?_
  refine e_iload_n zd39_87 rfl ?_
  refine e_iald zd39_88 (i := i1) (zSt_a4 hF hl1) e1 h1 (by omega) ?_
  refine e_iload zd39_89 rfl ?_
  exact e_icmp_lt zd39_91 (tg := 100) rfl kt kf
theorem b39_94 {x : zXs} {F : zF} (hF : zSh F) {d : Nat} {V : Nat → Nat → Int32} {T : Nat → Nat → Int64} {Q : Option Value → zG → Prop} {o0 : Option Value} {o1 : Option Value} {o2 : Option Value} {o3 : Option Value} {o4 : Option Value} {l5 : Int32}   (k : E x F d 39 101 [o0, o1, o2, o3, o4, some (.int l5)] [.int (-l5)] (V, T) Q) : E x F d 39 94 [o0, o1, o2, o3, o4, some (.int l5)] [] (V, T) Q := by
  refine e_iload zd39_94 rfl ?_
  refine e_ineg zd39_96 ?_
  exact e_goto zd39_97 (tg := 101) rfl k
theorem b39_100 {x : zXs} {F : zF} (hF : zSh F) {d : Nat} {V : Nat → Nat → Int32} {T : Nat → Nat → Int64} {Q : Option Value → zG → Prop} {o0 : Option Value} {o1 : Option Value} {o2 : Option Value} {l3 : Int32} {o4 : Option Value} {o5 : Option Value}   (k : E x F d 39 101 [o0, o1, o2, some (.int l3), o4, o5] [.int l3] (V, T) Q) : E x F d 39 100 [o0, o1, o2, some (.int l3), o4, o5] [] (V, T) Q := by
  refine e_iload_n zd39_100 rfl ?_
  exact k
theorem b39_101 {x : zXs} {F : zF} (hF : zSh F) {d : Nat} {V : Nat → Nat → Int32} {T : Nat → Nat → Int64} {Q : Option Value → zG → Prop} {o0 : Option Value} {o1 : Option Value} {o2 : Option Value} {o3 : Option Value} {o4 : Option Value} {o5 : Option Value} {s0 : Int32}   (k : Q (some (.int s0)) (V, T)) : E x F d 39 101 [o0, o1, o2, o3, o4, o5] [.int s0] (V, T) Q := by
  exact e_ireti zd39_101 zs39 k
theorem b39_102 {x : zXs} {F : zF} (hF : zSh F) {d : Nat} {V : Nat → Nat → Int32} {T : Nat → Nat → Int64} {Q : Option Value → zG → Prop} {o0 : Option Value} {o1 : Option Value} {o2 : Option Value} {l3 : Int32} {l4 : Int32} {o5 : Option Value}   (k : E x F d 30 0 [some (.int (l4 / (Int32.ofInt 2))), some (.int (Int32.ofInt 0)), some (.int l3)] [] (V, T) (fun r G' => E x F (d + 1) 39 111 [o0, o1, o2, some (.int l3), some (.int l4), o5] (r.toList ++ []) G' Q)) : E x F (d + 1) 39 102 [o0, o1, o2, some (.int l3), some (.int l4), o5] [] (V, T) Q := by
  refine e_iload zd39_102 rfl ?_
  refine e_iconst zd39_104 ?_
  refine e_idiv zd39_105 (by decide +kernel) ?_
  refine e_iconst zd39_106 ?_
  refine e_iload_n zd39_107 rfl ?_
  exact e_callS zd39_108 (own := 0) (nest := true) (w := 406) (by decide +kernel) (by decide +kernel) zs30 (as := [.int (l4 / (Int32.ofInt 2)), .int (Int32.ofInt 0), .int l3]) (rest := []) rfl rfl (Nat.le_of_ble_eq_true rfl) rfl rfl rfl (by omega) k
theorem b39_111 {x : zXs} {F : zF} (hF : zSh F) {d : Nat} {V : Nat → Nat → Int32} {T : Nat → Nat → Int64} {Q : Option Value → zG → Prop} {o0 : Option Value} {o1 : Option Value} {o2 : Option Value} {o3 : Option Value} {o4 : Option Value} {o5 : Option Value} {s0 : Int32}   (k : Q (some (.int s0)) (V, T)) : E x F d 39 111 [o0, o1, o2, o3, o4, o5] [.int s0] (V, T) Q := by
  exact e_ireti zd39_111 zs39 k
theorem b39_112 {x : zXs} {F : zF} (hF : zSh F) {d : Nat} {V : Nat → Nat → Int32} {T : Nat → Nat → Int64} {Q : Option Value → zG → Prop} {o0 : Option Value} {o1 : Option Value} {o2 : Option Value} {l3 : Int32} {l4 : Int32} {o5 : Option Value}   (k : E x F d 30 0 [some (.int l4), some (.int (Int32.ofInt 0)), some (.int l3)] [] (V, T) (fun r G' => E x F (d + 1) 39 119 [o0, o1, o2, some (.int l3), some (.int l4), o5] (r.toList ++ []) G' Q)) : E x F (d + 1) 39 112 [o0, o1, o2, some (.int l3), some (.int l4), o5] [] (V, T) Q := by
  refine e_iload zd39_112 rfl ?_
  refine e_iconst zd39_114 ?_
  refine e_iload_n zd39_115 rfl ?_
  exact e_callS zd39_116 (own := 0) (nest := true) (w := 406) (by decide +kernel) (by decide +kernel) zs30 (as := [.int l4, .int (Int32.ofInt 0), .int l3]) (rest := []) rfl rfl (Nat.le_of_ble_eq_true rfl) rfl rfl rfl (by omega) k
theorem b39_119 {x : zXs} {F : zF} (hF : zSh F) {d : Nat} {V : Nat → Nat → Int32} {T : Nat → Nat → Int64} {Q : Option Value → zG → Prop} {o0 : Option Value} {o1 : Option Value} {o2 : Option Value} {o3 : Option Value} {o4 : Option Value} {o5 : Option Value} {s0 : Int32}   (k : Q (some (.int s0)) (V, T)) : E x F d 39 119 [o0, o1, o2, o3, o4, o5] [.int s0] (V, T) Q := by
  exact e_ireti zd39_119 zs39 k
theorem zd40_0 : zop 40 0 = some (.iload_n 0, 1) := by decide +kernel
theorem zd40_1 : zop 40 1 = some (.iconst 2, 1) := by decide +kernel
theorem zd40_2 : zop 40 2 = some (.irem, 1) := by decide +kernel
theorem zd40_3 : zop 40 3 = some (.iconst 1, 1) := by decide +kernel
theorem zd40_4 : zop 40 4 = some (.if_icmp .ne 9, 3) := by decide +kernel
theorem zd40_7 : zop 40 7 = some (.iload_n 1, 1) := by decide +kernel
theorem zd40_8 : zop 40 8 = some (.iconst 1, 1) := by decide +kernel
theorem zd40_9 : zop 40 9 = some (.iadd, 1) := by decide +kernel
theorem zd40_10 : zop 40 10 = some (.goto 4, 3) := by decide +kernel
theorem zd40_13 : zop 40 13 = some (.iload_n 1, 1) := by decide +kernel
theorem zd40_14 : zop 40 14 = some (.ireturn, 1) := by decide +kernel
theorem b40_0 {x : zXs} {F : zF} (hF : zSh F) {d : Nat} {V : Nat → Nat → Int32} {T : Nat → Nat → Int64} {Q : Option Value → zG → Prop} {l0 : Int32} {o1 : Option Value}   (kt : ¬ (l0 - l0 / (Int32.ofInt 2) * (Int32.ofInt 2)) = (Int32.ofInt 1) → E x F d 40 13 [some (.int l0), o1] [] (V, T) Q) (kf : ¬ (¬ (l0 - l0 / (Int32.ofInt 2) * (Int32.ofInt 2)) = (Int32.ofInt 1)) → E x F d 40 7 [some (.int l0), o1] [] (V, T) Q) : E x F d 40 0 [some (.int l0), o1] [] (V, T) Q := by
  refine e_iload_n zd40_0 rfl ?_
  refine e_iconst zd40_1 ?_
  refine e_irem zd40_2 (by decide +kernel) ?_
  refine e_iconst zd40_3 ?_
  exact e_icmp_ne zd40_4 (tg := 13) rfl kt kf
theorem b40_7 {x : zXs} {F : zF} (hF : zSh F) {d : Nat} {V : Nat → Nat → Int32} {T : Nat → Nat → Int64} {Q : Option Value → zG → Prop} {o0 : Option Value} {l1 : Int32}   (k : E x F d 40 14 [o0, some (.int l1)] [.int (l1 + (Int32.ofInt 1))] (V, T) Q) : E x F d 40 7 [o0, some (.int l1)] [] (V, T) Q := by
  refine e_iload_n zd40_7 rfl ?_
  refine e_iconst zd40_8 ?_
  refine e_iadd zd40_9 ?_
  exact e_goto zd40_10 (tg := 14) rfl k
theorem b40_13 {x : zXs} {F : zF} (hF : zSh F) {d : Nat} {V : Nat → Nat → Int32} {T : Nat → Nat → Int64} {Q : Option Value → zG → Prop} {o0 : Option Value} {l1 : Int32}   (k : E x F d 40 14 [o0, some (.int l1)] [.int l1] (V, T) Q) : E x F d 40 13 [o0, some (.int l1)] [] (V, T) Q := by
  refine e_iload_n zd40_13 rfl ?_
  exact k
theorem b40_14 {x : zXs} {F : zF} (hF : zSh F) {d : Nat} {V : Nat → Nat → Int32} {T : Nat → Nat → Int64} {Q : Option Value → zG → Prop} {o0 : Option Value} {o1 : Option Value} {s0 : Int32}   (k : Q (some (.int s0)) (V, T)) : E x F d 40 14 [o0, o1] [.int s0] (V, T) Q := by
  exact e_ireti zd40_14 zs40 k
theorem zd41_0 : zop 41 0 = some (.iload_n 1, 1) := by decide +kernel
theorem zd41_1 : zop 41 1 = some (.iconst 0, 1) := by decide +kernel
theorem zd41_2 : zop 41 2 = some (.sipush 255, 3) := by decide +kernel
theorem zd41_5 : zop 41 5 = some (.invokestatic 59, 3) := by decide +kernel
theorem zd41_8 : zop 41 8 = some (.ifCond .ne 6, 3) := by decide +kernel
theorem zd41_11 : zop 41 11 = some (.bipush (-2), 2) := by decide +kernel
theorem zd41_13 : zop 41 13 = some (.ireturn, 1) := by decide +kernel
theorem zd41_14 : zop 41 14 = some (.aload_n 0, 1) := by decide +kernel
theorem zd41_15 : zop 41 15 = some (.getfield 44, 3) := by decide +kernel
theorem zd41_18 : zop 41 18 = some (.iload_n 1, 1) := by decide +kernel
theorem zd41_19 : zop 41 19 = some (.invokevirtual 133, 3) := by decide +kernel
theorem zd41_22 : zop 41 22 = some (.ifCond .eq 13, 3) := by decide +kernel
theorem zd41_25 : zop 41 25 = some (.aload_n 0, 1) := by decide +kernel
theorem zd41_26 : zop 41 26 = some (.getfield 44, 3) := by decide +kernel
theorem zd41_29 : zop 41 29 = some (.getfield 136, 3) := by decide +kernel
theorem zd41_32 : zop 41 32 = some (.goto 5, 3) := by decide +kernel
theorem zd41_35 : zop 41 35 = some (.bipush (-4), 2) := by decide +kernel
theorem zd41_37 : zop 41 37 = some (.ireturn, 1) := by decide +kernel
theorem b41_0 {x : zXs} {F : zF} (hF : zSh F) {d : Nat} {V : Nat → Nat → Int32} {T : Nat → Nat → Int64} {Q : Option Value → zG → Prop} {o0 : Option Value} {l1 : Int32}   (k : E x F d 7 0 [some (.int l1), some (.int (Int32.ofInt 0)), some (.int (Int32.ofInt 255))] [] (V, T) (fun r G' => E x F (d + 1) 41 8 [o0, some (.int l1)] (r.toList ++ []) G' Q)) : E x F (d + 1) 41 0 [o0, some (.int l1)] [] (V, T) Q := by
  refine e_iload_n zd41_0 rfl ?_
  refine e_iconst zd41_1 ?_
  refine e_sipush zd41_2 (v := Int32.ofInt 255) (by decide +kernel) ?_
  exact e_callS zd41_5 (own := 7) (nest := false) (w := 334) (by decide +kernel) (by decide +kernel) zs7 (as := [.int l1, .int (Int32.ofInt 0), .int (Int32.ofInt 255)]) (rest := []) rfl rfl (Nat.le_of_ble_eq_true rfl) rfl rfl rfl (by omega) k
theorem b41_8 {x : zXs} {F : zF} (hF : zSh F) {d : Nat} {V : Nat → Nat → Int32} {T : Nat → Nat → Int64} {Q : Option Value → zG → Prop} {o0 : Option Value} {o1 : Option Value} {s0 : Int32}   (kt : ¬ s0 = 0 → E x F d 41 14 [o0, o1] [] (V, T) Q) (kf : ¬ (¬ s0 = 0) → E x F d 41 11 [o0, o1] [] (V, T) Q) : E x F d 41 8 [o0, o1] [.int s0] (V, T) Q := by
  exact e_if_ne zd41_8 (tg := 14) rfl kt kf
theorem b41_11 {x : zXs} {F : zF} (hF : zSh F) {d : Nat} {V : Nat → Nat → Int32} {T : Nat → Nat → Int64} {Q : Option Value → zG → Prop} {o0 : Option Value} {o1 : Option Value}   (k : Q (some (.int (Int32.ofInt (-2)))) (V, T)) : E x F d 41 11 [o0, o1] [] (V, T) Q := by
  refine e_bipush zd41_11 (v := Int32.ofInt (-2)) (by decide +kernel) ?_
  exact e_ireti zd41_13 zs41 k
theorem b41_14 {x : zXs} {F : zF} (hF : zSh F) {d : Nat} {V : Nat → Nat → Int32} {T : Nat → Nat → Int64} {Q : Option Value → zG → Prop} {l1 : Int32}   (k : E x F d 42 0 [some (.ref 45), some (.int l1)] [] (V, T) (fun r G' => E x F (d + 1) 41 22 [some (.ref 0), some (.int l1)] (r.toList ++ []) G' Q)) : E x F (d + 1) 41 14 [some (.ref 0), some (.int l1)] [] (V, T) Q := by
  refine e_aload_n zd41_14 rfl rfl ?_
  refine e_getO zd41_15 (own := 7) (ci := 7) (kf := 6) (w := 303) (by decide +kernel) (by decide +kernel) (zsh_at hF rfl).1 (by decide +kernel) rfl (zrf_at hF (i := 6) rfl) ?_
  refine e_iload_n zd41_18 rfl ?_
  exact e_callV zd41_19 (own := 7) (nest := false) (w := 456) (by decide +kernel) (by decide +kernel) zs42 (as := [.int l1]) (rest := []) rfl rfl (zsh_at hF rfl).1 (by omega) (Nat.le_of_ble_eq_true rfl) rfl rfl rfl (by omega) k
theorem b41_22 {x : zXs} {F : zF} (hF : zSh F) {d : Nat} {V : Nat → Nat → Int32} {T : Nat → Nat → Int64} {Q : Option Value → zG → Prop} {o0 : Option Value} {o1 : Option Value} {s0 : Int32}   (kt : s0 = 0 → E x F d 41 35 [o0, o1] [] (V, T) Q) (kf : ¬ (s0 = 0) → E x F d 41 25 [o0, o1] [] (V, T) Q) : E x F d 41 22 [o0, o1] [.int s0] (V, T) Q := by
  exact e_if_eq zd41_22 (tg := 35) rfl kt kf
theorem b41_25 {x : zXs} {F : zF} (hF : zSh F) {d : Nat} {V : Nat → Nat → Int32} {T : Nat → Nat → Int64} {Q : Option Value → zG → Prop} {o1 : Option Value}   (k : E x F d 41 37 [some (.ref 0), o1] [.int (V 45 1)] (V, T) Q) : E x F d 41 25 [some (.ref 0), o1] [] (V, T) Q := by
  refine e_aload_n zd41_25 rfl rfl ?_
  refine e_getO zd41_26 (own := 7) (ci := 7) (kf := 6) (w := 303) (by decide +kernel) (by decide +kernel) (zsh_at hF rfl).1 (by decide +kernel) rfl (zrf_at hF (i := 6) rfl) ?_
  refine e_getI zd41_29 (own := 7) (ci := 5) (kf := 1) (w := 249) (by decide +kernel) (by decide +kernel) (zsh_at hF rfl).1 (by decide +kernel) rfl ?_
  exact e_goto zd41_32 (tg := 37) rfl k
theorem b41_35 {x : zXs} {F : zF} (hF : zSh F) {d : Nat} {V : Nat → Nat → Int32} {T : Nat → Nat → Int64} {Q : Option Value → zG → Prop} {o0 : Option Value} {o1 : Option Value}   (k : E x F d 41 37 [o0, o1] [.int (Int32.ofInt (-4))] (V, T) Q) : E x F d 41 35 [o0, o1] [] (V, T) Q := by
  refine e_bipush zd41_35 (v := Int32.ofInt (-4)) (by decide +kernel) ?_
  exact k
theorem b41_37 {x : zXs} {F : zF} (hF : zSh F) {d : Nat} {V : Nat → Nat → Int32} {T : Nat → Nat → Int64} {Q : Option Value → zG → Prop} {o0 : Option Value} {o1 : Option Value} {s0 : Int32}   (k : Q (some (.int s0)) (V, T)) : E x F d 41 37 [o0, o1] [.int s0] (V, T) Q := by
  exact e_ireti zd41_37 zs41 k
theorem zd42_0 : zop 42 0 = some (.aload_n 0, 1) := by decide +kernel
theorem zd42_1 : zop 42 1 = some (.getfield 22, 3) := by decide +kernel
theorem zd42_4 : zop 42 4 = some (.sipush 160, 3) := by decide +kernel
theorem zd42_7 : zop 42 7 = some (.if_icmp .lt 5, 3) := by decide +kernel
theorem zd42_10 : zop 42 10 = some (.iconst 0, 1) := by decide +kernel
theorem zd42_11 : zop 42 11 = some (.ireturn, 1) := by decide +kernel
theorem zd42_12 : zop 42 12 = some (.aload_n 0, 1) := by decide +kernel
theorem zd42_13 : zop 42 13 = some (.getfield 9, 3) := by decide +kernel
theorem zd42_16 : zop 42 16 = some (.aload_n 0, 1) := by decide +kernel
theorem zd42_17 : zop 42 17 = some (.getfield 22, 3) := by decide +kernel
theorem zd42_20 : zop 42 20 = some (.iload_n 1, 1) := by decide +kernel
theorem zd42_21 : zop 42 21 = some (.iastore, 1) := by decide +kernel
theorem zd42_22 : zop 42 22 = some (.aload_n 0, 1) := by decide +kernel
theorem zd42_23 : zop 42 23 = some (.dup, 1) := by decide +kernel
theorem zd42_24 : zop 42 24 = some (.getfield 22, 3) := by decide +kernel
theorem zd42_27 : zop 42 27 = some (.iconst 1, 1) := by decide +kernel
theorem zd42_28 : zop 42 28 = some (.iadd, 1) := by decide +kernel
theorem zd42_29 : zop 42 29 = some (.putfield 22, 3) := by decide +kernel
theorem zd42_32 : zop 42 32 = some (.iconst 1, 1) := by decide +kernel
theorem zd42_33 : zop 42 33 = some (.ireturn, 1) := by decide +kernel
theorem b42_0 {x : zXs} {F : zF} (hF : zSh F) {d : Nat} {V : Nat → Nat → Int32} {T : Nat → Nat → Int64} {Q : Option Value → zG → Prop} {o1 : Option Value}   (kt : (V 45 1) < (Int32.ofInt 160) → E x F d 42 12 [some (.ref 45), o1] [] (V, T) Q) (kf : ¬ ((V 45 1) < (Int32.ofInt 160)) → E x F d 42 10 [some (.ref 45), o1] [] (V, T) Q) : E x F d 42 0 [some (.ref 45), o1] [] (V, T) Q := by
  refine e_aload_n zd42_0 rfl rfl ?_
  refine e_getI zd42_1 (own := 5) (ci := 5) (kf := 1) (w := 248) (by decide +kernel) (by decide +kernel) (zsh_at hF rfl).1 (by decide +kernel) rfl ?_
  refine e_sipush zd42_4 (v := Int32.ofInt 160) (by decide +kernel) ?_
  exact e_icmp_lt zd42_7 (tg := 12) rfl kt kf
theorem b42_10 {x : zXs} {F : zF} (hF : zSh F) {d : Nat} {V : Nat → Nat → Int32} {T : Nat → Nat → Int64} {Q : Option Value → zG → Prop} {o0 : Option Value} {o1 : Option Value}   (k : Q (some (.int (Int32.ofInt 0))) (V, T)) : E x F d 42 10 [o0, o1] [] (V, T) Q := by
  refine e_iconst zd42_10 ?_
  exact e_iretz zd42_11 zs42 (by decide +kernel) k
theorem b42_12 {x : zXs} {F : zF} (hF : zSh F) {d : Nat} {V : Nat → Nat → Int32} {T : Nat → Nat → Int64} {Q : Option Value → zG → Prop} {l1 : Int32}  {i1 : Nat} (e1 : V 45 1 = nI i1) (h1 : i1 < 160) (k : Q (some (.int (Int32.ofInt 1))) (zu (zu V 46 i1 l1) 45 1 (((zu V 46 i1 l1) 45 1) + (Int32.ofInt 1)), T)) : E x F d 42 12 [some (.ref 45), some (.int l1)] [] (V, T) Q := by
  refine e_aload_n zd42_12 rfl rfl ?_
  refine e_getA zd42_13 (own := 5) (ci := 5) (kf := 0) (w := 247) (by decide +kernel) (by decide +kernel) (zsh_at hF rfl).1 (by decide +kernel) rfl (zrf_at hF (i := 47) rfl) ?_
  refine e_aload_n zd42_16 rfl rfl ?_
  refine e_getI zd42_17 (own := 5) (ci := 5) (kf := 1) (w := 248) (by decide +kernel) (by decide +kernel) (zsh_at hF rfl).1 (by decide +kernel) rfl ?_
  refine e_iload_n zd42_20 rfl ?_
  refine e_iast zd42_21 (i := i1) (zsh_at hF rfl) e1 h1 (by omega) ?_
  refine e_aload_n zd42_22 rfl rfl ?_
  refine e_dup zd42_23 rfl ?_
  refine e_getI zd42_24 (own := 5) (ci := 5) (kf := 1) (w := 248) (by decide +kernel) (by decide +kernel) (zsh_at hF rfl).1 (by decide +kernel) rfl ?_
  refine e_iconst zd42_27 ?_
  refine e_iadd zd42_28 ?_
  refine e_putI zd42_29 (own := 5) (ci := 5) (kf := 1) (w := 248) (by decide +kernel) (by decide +kernel) (zsh_at hF rfl).1 (by decide +kernel) rfl ?_
  refine e_iconst zd42_32 ?_
  exact e_iretz zd42_33 zs42 (by decide +kernel) k
theorem zd43_0 : zop 43 0 = some (.aload_n 0, 1) := by decide +kernel
theorem zd43_1 : zop 43 1 = some (.getfield 33, 3) := by decide +kernel
theorem zd43_4 : zop 43 4 = some (.getfield 139, 3) := by decide +kernel
theorem zd43_7 : zop 43 7 = some (.bipush 6, 2) := by decide +kernel
theorem zd43_9 : zop 43 9 = some (.if_icmp .lt 6, 3) := by decide +kernel
theorem zd43_12 : zop 43 12 = some (.bipush (-4), 2) := by decide +kernel
theorem zd43_14 : zop 43 14 = some (.ireturn, 1) := by decide +kernel
theorem zd43_15 : zop 43 15 = some (.aload_n 0, 1) := by decide +kernel
theorem zd43_16 : zop 43 16 = some (.getfield 44, 3) := by decide +kernel
theorem zd43_19 : zop 43 19 = some (.invokevirtual 142, 3) := by decide +kernel
theorem zd43_22 : zop 43 22 = some (.istore_n 1, 1) := by decide +kernel
theorem zd43_23 : zop 43 23 = some (.aload_n 0, 1) := by decide +kernel
theorem zd43_24 : zop 43 24 = some (.getfield 44, 3) := by decide +kernel
theorem zd43_27 : zop 43 27 = some (.iconst 0, 1) := by decide +kernel
theorem zd43_28 : zop 43 28 = some (.putfield 136, 3) := by decide +kernel
theorem zd43_31 : zop 43 31 = some (.iload_n 1, 1) := by decide +kernel
theorem zd43_32 : zop 43 32 = some (.iconst (-1), 1) := by decide +kernel
theorem zd43_33 : zop 43 33 = some (.if_icmp .ne 20, 3) := by decide +kernel
theorem zd43_36 : zop 43 36 = some (.aload_n 0, 1) := by decide +kernel
theorem zd43_37 : zop 43 37 = some (.getfield 33, 3) := by decide +kernel
theorem zd43_40 : zop 43 40 = some (.aload_n 0, 1) := by decide +kernel
theorem zd43_41 : zop 43 41 = some (.getfield 44, 3) := by decide +kernel
theorem zd43_44 : zop 43 44 = some (.getfield 146, 3) := by decide +kernel
theorem zd43_47 : zop 43 47 = some (.invokevirtual 150, 3) := by decide +kernel
theorem zd43_50 : zop 43 50 = some (.goto 7, 3) := by decide +kernel
theorem zd43_53 : zop 43 53 = some (.bipush (-100), 2) := by decide +kernel
theorem zd43_55 : zop 43 55 = some (.iload_n 1, 1) := by decide +kernel
theorem zd43_56 : zop 43 56 = some (.isub, 1) := by decide +kernel
theorem zd43_57 : zop 43 57 = some (.ireturn, 1) := by decide +kernel
theorem b43_0 {x : zXs} {F : zF} (hF : zSh F) {d : Nat} {V : Nat → Nat → Int32} {T : Nat → Nat → Int64} {Q : Option Value → zG → Prop} {o1 : Option Value}   (kt : (V 20 3) < (Int32.ofInt 6) → E x F d 43 15 [some (.ref 0), o1] [] (V, T) Q) (kf : ¬ ((V 20 3) < (Int32.ofInt 6)) → E x F d 43 12 [some (.ref 0), o1] [] (V, T) Q) : E x F d 43 0 [some (.ref 0), o1] [] (V, T) Q := by
  refine e_aload_n zd43_0 rfl rfl ?_
  refine e_getO zd43_1 (own := 7) (ci := 7) (kf := 4) (w := 301) (by decide +kernel) (by decide +kernel) (zsh_at hF rfl).1 (by decide +kernel) rfl (zrf_at hF (i := 4) rfl) ?_
  refine e_getI zd43_4 (own := 7) (ci := 2) (kf := 3) (w := 201) (by decide +kernel) (by decide +kernel) (zsh_at hF rfl).1 (by decide +kernel) rfl ?_
  refine e_bipush zd43_7 (v := Int32.ofInt 6) (by decide +kernel) ?_
  exact e_icmp_lt zd43_9 (tg := 15) rfl kt kf
theorem b43_12 {x : zXs} {F : zF} (hF : zSh F) {d : Nat} {V : Nat → Nat → Int32} {T : Nat → Nat → Int64} {Q : Option Value → zG → Prop} {o0 : Option Value} {o1 : Option Value}   (k : Q (some (.int (Int32.ofInt (-4)))) (V, T)) : E x F d 43 12 [o0, o1] [] (V, T) Q := by
  refine e_bipush zd43_12 (v := Int32.ofInt (-4)) (by decide +kernel) ?_
  exact e_ireti zd43_14 zs43 k
theorem b43_15 {x : zXs} {F : zF} (hF : zSh F) {d : Nat} {V : Nat → Nat → Int32} {T : Nat → Nat → Int64} {Q : Option Value → zG → Prop} {o1 : Option Value}   (k : E x F d 44 0 [some (.ref 45), none] [] (V, T) (fun r G' => E x F (d + 1) 43 22 [some (.ref 0), o1] (r.toList ++ []) G' Q)) : E x F (d + 1) 43 15 [some (.ref 0), o1] [] (V, T) Q := by
  refine e_aload_n zd43_15 rfl rfl ?_
  refine e_getO zd43_16 (own := 7) (ci := 7) (kf := 6) (w := 303) (by decide +kernel) (by decide +kernel) (zsh_at hF rfl).1 (by decide +kernel) rfl (zrf_at hF (i := 6) rfl) ?_
  exact e_callV zd43_19 (own := 7) (nest := false) (w := 464) (by decide +kernel) (by decide +kernel) zs44 (as := []) (rest := []) rfl rfl (zsh_at hF rfl).1 (by omega) (Nat.le_of_ble_eq_true rfl) rfl rfl rfl (by omega) k
theorem b43_22 {x : zXs} {F : zF} (hF : zSh F) {d : Nat} {V : Nat → Nat → Int32} {T : Nat → Nat → Int64} {Q : Option Value → zG → Prop} {o1 : Option Value} {s0 : Int32}   (kt : ¬ s0 = (Int32.ofInt (-1)) → E x F d 43 53 [some (.ref 0), some (.int s0)] [] (zu V 45 1 (Int32.ofInt 0), T) Q) (kf : ¬ (¬ s0 = (Int32.ofInt (-1))) → E x F d 43 36 [some (.ref 0), some (.int s0)] [] (zu V 45 1 (Int32.ofInt 0), T) Q) : E x F d 43 22 [some (.ref 0), o1] [.int s0] (V, T) Q := by
  refine e_istore_n zd43_22 (by decide +kernel) (Nat.le_of_ble_eq_true rfl) ?_
  refine e_aload_n zd43_23 rfl rfl ?_
  refine e_getO zd43_24 (own := 7) (ci := 7) (kf := 6) (w := 303) (by decide +kernel) (by decide +kernel) (zsh_at hF rfl).1 (by decide +kernel) rfl (zrf_at hF (i := 6) rfl) ?_
  refine e_iconst zd43_27 ?_
  refine e_putI zd43_28 (own := 7) (ci := 5) (kf := 1) (w := 249) (by decide +kernel) (by decide +kernel) (zsh_at hF rfl).1 (by decide +kernel) rfl ?_
  refine e_iload_n zd43_31 rfl ?_
  refine e_iconst zd43_32 ?_
  exact e_icmp_ne zd43_33 (tg := 53) rfl kt kf
theorem b43_36 {x : zXs} {F : zF} (hF : zSh F) {d : Nat} {V : Nat → Nat → Int32} {T : Nat → Nat → Int64} {Q : Option Value → zG → Prop} {o1 : Option Value}   (k : E x F d 70 0 [some (.ref 20), some (.ref 47)] [] (V, T) (fun r G' => E x F (d + 1) 43 50 [some (.ref 0), o1] (r.toList ++ []) G' Q)) : E x F (d + 1) 43 36 [some (.ref 0), o1] [] (V, T) Q := by
  refine e_aload_n zd43_36 rfl rfl ?_
  refine e_getO zd43_37 (own := 7) (ci := 7) (kf := 4) (w := 301) (by decide +kernel) (by decide +kernel) (zsh_at hF rfl).1 (by decide +kernel) rfl (zrf_at hF (i := 4) rfl) ?_
  refine e_aload_n zd43_40 rfl rfl ?_
  refine e_getO zd43_41 (own := 7) (ci := 7) (kf := 6) (w := 303) (by decide +kernel) (by decide +kernel) (zsh_at hF rfl).1 (by decide +kernel) rfl (zrf_at hF (i := 6) rfl) ?_
  refine e_getO zd43_44 (own := 7) (ci := 5) (kf := 2) (w := 251) (by decide +kernel) (by decide +kernel) (zsh_at hF rfl).1 (by decide +kernel) rfl (zrf_at hF (i := 48) rfl) ?_
  exact e_callV zd43_47 (own := 7) (nest := false) (w := 598) (by decide +kernel) (by decide +kernel) zs70 (as := [.ref 47]) (rest := []) rfl rfl (zsh_at hF rfl).1 (by omega) (Nat.le_of_ble_eq_true rfl) rfl rfl rfl (by omega) k
theorem b43_50 {x : zXs} {F : zF} (hF : zSh F) {d : Nat} {V : Nat → Nat → Int32} {T : Nat → Nat → Int64} {Q : Option Value → zG → Prop} {o0 : Option Value} {o1 : Option Value} {s0 : Int32}   (k : E x F d 43 57 [o0, o1] [.int s0] (V, T) Q) : E x F d 43 50 [o0, o1] [.int s0] (V, T) Q := by
  exact e_goto zd43_50 (tg := 57) rfl k
theorem b43_53 {x : zXs} {F : zF} (hF : zSh F) {d : Nat} {V : Nat → Nat → Int32} {T : Nat → Nat → Int64} {Q : Option Value → zG → Prop} {o0 : Option Value} {l1 : Int32}   (k : E x F d 43 57 [o0, some (.int l1)] [.int ((Int32.ofInt (-100)) - l1)] (V, T) Q) : E x F d 43 53 [o0, some (.int l1)] [] (V, T) Q := by
  refine e_bipush zd43_53 (v := Int32.ofInt (-100)) (by decide +kernel) ?_
  refine e_iload_n zd43_55 rfl ?_
  refine e_isub zd43_56 ?_
  exact k
theorem b43_57 {x : zXs} {F : zF} (hF : zSh F) {d : Nat} {V : Nat → Nat → Int32} {T : Nat → Nat → Int64} {Q : Option Value → zG → Prop} {o0 : Option Value} {o1 : Option Value} {s0 : Int32}   (k : Q (some (.int s0)) (V, T)) : E x F d 43 57 [o0, o1] [.int s0] (V, T) Q := by
  exact e_ireti zd43_57 zs43 k
theorem zd44_0 : zop 44 0 = some (.aload_n 0, 1) := by decide +kernel
theorem zd44_1 : zop 44 1 = some (.getfield 18, 3) := by decide +kernel
theorem zd44_4 : zop 44 4 = some (.invokevirtual 26, 3) := by decide +kernel
theorem zd44_7 : zop 44 7 = some (.aload_n 0, 1) := by decide +kernel
theorem zd44_8 : zop 44 8 = some (.iconst 0, 1) := by decide +kernel
theorem zd44_9 : zop 44 9 = some (.putfield 29, 3) := by decide +kernel
theorem zd44_12 : zop 44 12 = some (.aload_n 0, 1) := by decide +kernel
theorem zd44_13 : zop 44 13 = some (.iconst (-1), 1) := by decide +kernel
theorem zd44_14 : zop 44 14 = some (.putfield 32, 3) := by decide +kernel
theorem zd44_17 : zop 44 17 = some (.aload_n 0, 1) := by decide +kernel
theorem zd44_18 : zop 44 18 = some (.iconst 0, 1) := by decide +kernel
theorem zd44_19 : zop 44 19 = some (.putfield 35, 3) := by decide +kernel
theorem zd44_22 : zop 44 22 = some (.aload_n 0, 1) := by decide +kernel
theorem zd44_23 : zop 44 23 = some (.invokevirtual 38, 3) := by decide +kernel
theorem zd44_26 : zop 44 26 = some (.iconst 0, 1) := by decide +kernel
theorem zd44_27 : zop 44 27 = some (.istore_n 1, 1) := by decide +kernel
theorem zd44_28 : zop 44 28 = some (.iload_n 1, 1) := by decide +kernel
theorem zd44_29 : zop 44 29 = some (.iconst 3, 1) := by decide +kernel
theorem zd44_30 : zop 44 30 = some (.if_icmp .ge 34, 3) := by decide +kernel
theorem zd44_33 : zop 44 33 = some (.aload_n 0, 1) := by decide +kernel
theorem zd44_34 : zop 44 34 = some (.iconst 4, 1) := by decide +kernel
theorem zd44_35 : zop 44 35 = some (.iload_n 1, 1) := by decide +kernel
theorem zd44_36 : zop 44 36 = some (.iadd, 1) := by decide +kernel
theorem zd44_37 : zop 44 37 = some (.invokevirtual 41, 3) := by decide +kernel
theorem zd44_40 : zop 44 40 = some (.aload_n 0, 1) := by decide +kernel
theorem zd44_41 : zop 44 41 = some (.invokevirtual 45, 3) := by decide +kernel
theorem zd44_44 : zop 44 44 = some (.aload_n 0, 1) := by decide +kernel
theorem zd44_45 : zop 44 45 = some (.bipush 59, 2) := by decide +kernel
theorem zd44_47 : zop 44 47 = some (.invokevirtual 41, 3) := by decide +kernel
theorem zd44_50 : zop 44 50 = some (.aload_n 0, 1) := by decide +kernel
theorem zd44_51 : zop 44 51 = some (.getfield 18, 3) := by decide +kernel
theorem zd44_54 : zop 44 54 = some (.iload_n 1, 1) := by decide +kernel
theorem zd44_55 : zop 44 55 = some (.invokevirtual 48, 3) := by decide +kernel
theorem zd44_58 : zop 44 58 = some (.iinc 1 1, 3) := by decide +kernel
theorem zd44_61 : zop 44 61 = some (.goto (-33), 3) := by decide +kernel
theorem zd44_64 : zop 44 64 = some (.aload_n 0, 1) := by decide +kernel
theorem zd44_65 : zop 44 65 = some (.iconst 0, 1) := by decide +kernel
theorem zd44_66 : zop 44 66 = some (.invokevirtual 41, 3) := by decide +kernel
theorem zd44_69 : zop 44 69 = some (.aload_n 0, 1) := by decide +kernel
theorem zd44_70 : zop 44 70 = some (.getfield 32, 3) := by decide +kernel
theorem zd44_73 : zop 44 73 = some (.ireturn, 1) := by decide +kernel
theorem b44_0 {x : zXs} {F : zF} (hF : zSh F) {d : Nat} {V : Nat → Nat → Int32} {T : Nat → Nat → Int64} {Q : Option Value → zG → Prop} {o1 : Option Value}   (k : E x F d 45 0 [some (.ref 47)] [] (V, T) (fun r G' => E x F (d + 1) 44 7 [some (.ref 45), o1] (r.toList ++ []) G' Q)) : E x F (d + 1) 44 0 [some (.ref 45), o1] [] (V, T) Q := by
  refine e_aload_n zd44_0 rfl rfl ?_
  refine e_getO zd44_1 (own := 5) (ci := 5) (kf := 2) (w := 250) (by decide +kernel) (by decide +kernel) (zsh_at hF rfl).1 (by decide +kernel) rfl (zrf_at hF (i := 48) rfl) ?_
  exact e_callV zd44_4 (own := 5) (nest := false) (w := 468) (by decide +kernel) (by decide +kernel) zs45 (as := []) (rest := []) rfl rfl (zsh_at hF rfl).1 (by omega) (Nat.le_of_ble_eq_true rfl) rfl rfl rfl (by omega) k
theorem b44_7 {x : zXs} {F : zF} (hF : zSh F) {d : Nat} {V : Nat → Nat → Int32} {T : Nat → Nat → Int64} {Q : Option Value → zG → Prop} {o1 : Option Value}   (k : E x F d 46 0 [some (.ref 45)] [] (zu (zu (zu V 45 7 (Int32.ofInt 0)) 45 8 (Int32.ofInt (-1))) 45 6 (Int32.ofInt 0), T) (fun r G' => E x F (d + 1) 44 26 [some (.ref 45), o1] (r.toList ++ []) G' Q)) : E x F (d + 1) 44 7 [some (.ref 45), o1] [] (V, T) Q := by
  refine e_aload_n zd44_7 rfl rfl ?_
  refine e_iconst zd44_8 ?_
  refine e_putI zd44_9 (own := 5) (ci := 5) (kf := 7) (w := 256) (by decide +kernel) (by decide +kernel) (zsh_at hF rfl).1 (by decide +kernel) rfl ?_
  refine e_aload_n zd44_12 rfl rfl ?_
  refine e_iconst zd44_13 ?_
  refine e_putI zd44_14 (own := 5) (ci := 5) (kf := 8) (w := 257) (by decide +kernel) (by decide +kernel) (zsh_at hF rfl).1 (by decide +kernel) rfl ?_
  refine e_aload_n zd44_17 rfl rfl ?_
  refine e_iconst zd44_18 ?_
  refine e_putI zd44_19 (own := 5) (ci := 5) (kf := 6) (w := 255) (by decide +kernel) (by decide +kernel) (zsh_at hF rfl).1 (by decide +kernel) rfl ?_
  refine e_aload_n zd44_22 rfl rfl ?_
  exact e_callV zd44_23 (own := 5) (nest := false) (w := 472) (by decide +kernel) (by decide +kernel) zs46 (as := []) (rest := []) rfl rfl (zsh_at hF rfl).1 (by omega) (Nat.le_of_ble_eq_true rfl) rfl rfl rfl (by omega) k
theorem b44_26 {x : zXs} {F : zF} (hF : zSh F) {d : Nat} {V : Nat → Nat → Int32} {T : Nat → Nat → Int64} {Q : Option Value → zG → Prop} {o0 : Option Value} {o1 : Option Value}   (k : E x F d 44 28 [o0, some (.int (Int32.ofInt 0))] [] (V, T) Q) : E x F d 44 26 [o0, o1] [] (V, T) Q := by
  refine e_iconst zd44_26 ?_
  refine e_istore_n zd44_27 (by decide +kernel) (Nat.le_of_ble_eq_true rfl) ?_
  exact k
theorem b44_28 {x : zXs} {F : zF} (hF : zSh F) {d : Nat} {V : Nat → Nat → Int32} {T : Nat → Nat → Int64} {Q : Option Value → zG → Prop} {o0 : Option Value} {l1 : Int32}   (kt : (Int32.ofInt 3) ≤ l1 → E x F d 44 64 [o0, some (.int l1)] [] (V, T) Q) (kf : ¬ ((Int32.ofInt 3) ≤ l1) → E x F d 44 33 [o0, some (.int l1)] [] (V, T) Q) : E x F d 44 28 [o0, some (.int l1)] [] (V, T) Q := by
  refine e_iload_n zd44_28 rfl ?_
  refine e_iconst zd44_29 ?_
  exact e_icmp_ge zd44_30 (tg := 64) rfl kt kf
theorem b44_33 {x : zXs} {F : zF} (hF : zSh F) {d : Nat} {V : Nat → Nat → Int32} {T : Nat → Nat → Int64} {Q : Option Value → zG → Prop} {l1 : Int32}   (k : E x F d 61 0 [some (.ref 45), some (.int ((Int32.ofInt 4) + l1))] [] (V, T) (fun r G' => E x F (d + 1) 44 40 [some (.ref 45), some (.int l1)] (r.toList ++ []) G' Q)) : E x F (d + 1) 44 33 [some (.ref 45), some (.int l1)] [] (V, T) Q := by
  refine e_aload_n zd44_33 rfl rfl ?_
  refine e_iconst zd44_34 ?_
  refine e_iload_n zd44_35 rfl ?_
  refine e_iadd zd44_36 ?_
  exact e_callV zd44_37 (own := 5) (nest := false) (w := 560) (by decide +kernel) (by decide +kernel) zs61 (as := [.int ((Int32.ofInt 4) + l1)]) (rest := []) rfl rfl (zsh_at hF rfl).1 (by omega) (Nat.le_of_ble_eq_true rfl) rfl rfl rfl (by omega) k
theorem b44_40 {x : zXs} {F : zF} (hF : zSh F) {d : Nat} {V : Nat → Nat → Int32} {T : Nat → Nat → Int64} {Q : Option Value → zG → Prop} {o1 : Option Value}   (k : E x F d 63 0 [some (.ref 45), none] [] (V, T) (fun r G' => E x F (d + 1) 44 44 [some (.ref 45), o1] (r.toList ++ []) G' Q)) : E x F (d + 1) 44 40 [some (.ref 45), o1] [] (V, T) Q := by
  refine e_aload_n zd44_40 rfl rfl ?_
  exact e_callV zd44_41 (own := 5) (nest := false) (w := 568) (by decide +kernel) (by decide +kernel) zs63 (as := []) (rest := []) rfl rfl (zsh_at hF rfl).1 (by omega) (Nat.le_of_ble_eq_true rfl) rfl rfl rfl (by omega) k
theorem b44_44 {x : zXs} {F : zF} (hF : zSh F) {d : Nat} {V : Nat → Nat → Int32} {T : Nat → Nat → Int64} {Q : Option Value → zG → Prop} {o1 : Option Value}   (k : E x F d 61 0 [some (.ref 45), some (.int (Int32.ofInt 59))] [] (V, T) (fun r G' => E x F (d + 1) 44 50 [some (.ref 45), o1] (r.toList ++ []) G' Q)) : E x F (d + 1) 44 44 [some (.ref 45), o1] [] (V, T) Q := by
  refine e_aload_n zd44_44 rfl rfl ?_
  refine e_bipush zd44_45 (v := Int32.ofInt 59) (by decide +kernel) ?_
  exact e_callV zd44_47 (own := 5) (nest := false) (w := 560) (by decide +kernel) (by decide +kernel) zs61 (as := [.int (Int32.ofInt 59)]) (rest := []) rfl rfl (zsh_at hF rfl).1 (by omega) (Nat.le_of_ble_eq_true rfl) rfl rfl rfl (by omega) k
theorem b44_50 {x : zXs} {F : zF} (hF : zSh F) {d : Nat} {V : Nat → Nat → Int32} {T : Nat → Nat → Int64} {Q : Option Value → zG → Prop} {l1 : Int32}   (k : E x F d 6 0 [some (.ref 47), some (.int l1)] [] (V, T) (fun r G' => E x F (d + 1) 44 58 [some (.ref 45), some (.int l1)] (r.toList ++ []) G' Q)) : E x F (d + 1) 44 50 [some (.ref 45), some (.int l1)] [] (V, T) Q := by
  refine e_aload_n zd44_50 rfl rfl ?_
  refine e_getO zd44_51 (own := 5) (ci := 5) (kf := 2) (w := 250) (by decide +kernel) (by decide +kernel) (zsh_at hF rfl).1 (by decide +kernel) rfl (zrf_at hF (i := 48) rfl) ?_
  refine e_iload_n zd44_54 rfl ?_
  exact e_callV zd44_55 (own := 5) (nest := false) (w := 597) (by decide +kernel) (by decide +kernel) zs6 (as := [.int l1]) (rest := []) rfl rfl (zsh_at hF rfl).1 (by omega) (Nat.le_of_ble_eq_true rfl) rfl rfl rfl (by omega) k
theorem b44_58 {x : zXs} {F : zF} (hF : zSh F) {d : Nat} {V : Nat → Nat → Int32} {T : Nat → Nat → Int64} {Q : Option Value → zG → Prop} {o0 : Option Value} {l1 : Int32}   (k : E x F d 44 28 [o0, some (.int (l1 + Int32.ofInt 1))] [] (V, T) Q) : E x F d 44 58 [o0, some (.int l1)] [] (V, T) Q := by
  refine e_iinc zd44_58 rfl (by decide +kernel) ?_
  exact e_goto zd44_61 (tg := 28) rfl k
theorem b44_64 {x : zXs} {F : zF} (hF : zSh F) {d : Nat} {V : Nat → Nat → Int32} {T : Nat → Nat → Int64} {Q : Option Value → zG → Prop} {o1 : Option Value}   (k : E x F d 61 0 [some (.ref 45), some (.int (Int32.ofInt 0))] [] (V, T) (fun r G' => E x F (d + 1) 44 69 [some (.ref 45), o1] (r.toList ++ []) G' Q)) : E x F (d + 1) 44 64 [some (.ref 45), o1] [] (V, T) Q := by
  refine e_aload_n zd44_64 rfl rfl ?_
  refine e_iconst zd44_65 ?_
  exact e_callV zd44_66 (own := 5) (nest := false) (w := 560) (by decide +kernel) (by decide +kernel) zs61 (as := [.int (Int32.ofInt 0)]) (rest := []) rfl rfl (zsh_at hF rfl).1 (by omega) (Nat.le_of_ble_eq_true rfl) rfl rfl rfl (by omega) k
theorem b44_69 {x : zXs} {F : zF} (hF : zSh F) {d : Nat} {V : Nat → Nat → Int32} {T : Nat → Nat → Int64} {Q : Option Value → zG → Prop} {o1 : Option Value}   (k : Q (some (.int (V 45 8))) (V, T)) : E x F d 44 69 [some (.ref 45), o1] [] (V, T) Q := by
  refine e_aload_n zd44_69 rfl rfl ?_
  refine e_getI zd44_70 (own := 5) (ci := 5) (kf := 8) (w := 257) (by decide +kernel) (by decide +kernel) (zsh_at hF rfl).1 (by decide +kernel) rfl ?_
  exact e_ireti zd44_73 zs44 k
theorem zd45_0 : zop 45 0 = some (.aload_n 0, 1) := by decide +kernel
theorem zd45_1 : zop 45 1 = some (.iconst 0, 1) := by decide +kernel
theorem zd45_2 : zop 45 2 = some (.putfield 18, 3) := by decide +kernel
theorem zd45_5 : zop 45 5 = some (.return_, 1) := by decide +kernel
theorem b45_0 {x : zXs} {F : zF} (hF : zSh F) {d : Nat} {V : Nat → Nat → Int32} {T : Nat → Nat → Int64} {Q : Option Value → zG → Prop} {l0 : Nat} (hl0 : zTx l0)  (k : Q none (zu V l0 2 (Int32.ofInt 0), T)) : E x F d 45 0 [some (.ref l0)] [] (V, T) Q := by
  refine e_aload_n zd45_0 rfl rfl ?_
  refine e_iconst zd45_1 ?_
  refine e_putI zd45_2 (own := 6) (ci := 6) (kf := 2) (w := 178) (by decide +kernel) (by decide +kernel) (zTx_s hF hl0).1 (by decide +kernel) rfl ?_
  exact e_vret zd45_5 zs45 k
theorem zd46_0 : zop 46 0 = some (.aload_n 0, 1) := by decide +kernel
theorem zd46_1 : zop 46 1 = some (.getfield 32, 3) := by decide +kernel
theorem zd46_4 : zop 46 4 = some (.iconst (-1), 1) := by decide +kernel
theorem zd46_5 : zop 46 5 = some (.if_icmp .eq 4, 3) := by decide +kernel
theorem zd46_8 : zop 46 8 = some (.return_, 1) := by decide +kernel
theorem zd46_9 : zop 46 9 = some (.aload_n 0, 1) := by decide +kernel
theorem zd46_10 : zop 46 10 = some (.aload_n 0, 1) := by decide +kernel
theorem zd46_11 : zop 46 11 = some (.getfield 35, 3) := by decide +kernel
theorem zd46_14 : zop 46 14 = some (.putfield 82, 3) := by decide +kernel
theorem zd46_17 : zop 46 17 = some (.aload_n 0, 1) := by decide +kernel
theorem zd46_18 : zop 46 18 = some (.getfield 82, 3) := by decide +kernel
theorem zd46_21 : zop 46 21 = some (.aload_n 0, 1) := by decide +kernel
theorem zd46_22 : zop 46 22 = some (.getfield 22, 3) := by decide +kernel
theorem zd46_25 : zop 46 25 = some (.if_icmp .ge 44, 3) := by decide +kernel
theorem zd46_28 : zop 46 28 = some (.aload_n 0, 1) := by decide +kernel
theorem zd46_29 : zop 46 29 = some (.getfield 9, 3) := by decide +kernel
theorem zd46_32 : zop 46 32 = some (.aload_n 0, 1) := by decide +kernel
theorem zd46_33 : zop 46 33 = some (.getfield 82, 3) := by decide +kernel
theorem zd46_36 : zop 46 36 = some (.iaload, 1) := by decide +kernel
theorem zd46_37 : zop 46 37 = some (.bipush 32, 2) := by decide +kernel
theorem zd46_39 : zop 46 39 = some (.if_icmp .eq 17, 3) := by decide +kernel
theorem zd46_42 : zop 46 42 = some (.aload_n 0, 1) := by decide +kernel
theorem zd46_43 : zop 46 43 = some (.getfield 9, 3) := by decide +kernel
theorem zd46_46 : zop 46 46 = some (.aload_n 0, 1) := by decide +kernel
theorem zd46_47 : zop 46 47 = some (.getfield 82, 3) := by decide +kernel
theorem zd46_50 : zop 46 50 = some (.iaload, 1) := by decide +kernel
theorem zd46_51 : zop 46 51 = some (.bipush 10, 2) := by decide +kernel
theorem zd46_53 : zop 46 53 = some (.if_icmp .ne 16, 3) := by decide +kernel
theorem zd46_56 : zop 46 56 = some (.aload_n 0, 1) := by decide +kernel
theorem zd46_57 : zop 46 57 = some (.dup, 1) := by decide +kernel
theorem zd46_58 : zop 46 58 = some (.getfield 82, 3) := by decide +kernel
theorem zd46_61 : zop 46 61 = some (.iconst 1, 1) := by decide +kernel
theorem zd46_62 : zop 46 62 = some (.iadd, 1) := by decide +kernel
theorem zd46_63 : zop 46 63 = some (.putfield 82, 3) := by decide +kernel
theorem zd46_66 : zop 46 66 = some (.goto (-49), 3) := by decide +kernel
theorem zd46_69 : zop 46 69 = some (.aload_n 0, 1) := by decide +kernel
theorem zd46_70 : zop 46 70 = some (.getfield 82, 3) := by decide +kernel
theorem zd46_73 : zop 46 73 = some (.aload_n 0, 1) := by decide +kernel
theorem zd46_74 : zop 46 74 = some (.getfield 22, 3) := by decide +kernel
theorem zd46_77 : zop 46 77 = some (.if_icmp .lt 19, 3) := by decide +kernel
theorem zd46_80 : zop 46 80 = some (.aload_n 0, 1) := by decide +kernel
theorem zd46_81 : zop 46 81 = some (.aload_n 0, 1) := by decide +kernel
theorem zd46_82 : zop 46 82 = some (.getfield 22, 3) := by decide +kernel
theorem zd46_85 : zop 46 85 = some (.putfield 35, 3) := by decide +kernel
theorem zd46_88 : zop 46 88 = some (.aload_n 0, 1) := by decide +kernel
theorem zd46_89 : zop 46 89 = some (.iconst 0, 1) := by decide +kernel
theorem zd46_90 : zop 46 90 = some (.putfield 54, 3) := by decide +kernel
theorem zd46_93 : zop 46 93 = some (.goto 89, 3) := by decide +kernel
theorem zd46_96 : zop 46 96 = some (.aload_n 0, 1) := by decide +kernel
theorem zd46_97 : zop 46 97 = some (.getfield 9, 3) := by decide +kernel
theorem zd46_100 : zop 46 100 = some (.aload_n 0, 1) := by decide +kernel
theorem zd46_101 : zop 46 101 = some (.getfield 82, 3) := by decide +kernel
theorem zd46_104 : zop 46 104 = some (.iaload, 1) := by decide +kernel
theorem zd46_105 : zop 46 105 = some (.invokestatic 85, 3) := by decide +kernel
theorem zd46_108 : zop 46 108 = some (.ifCond .eq 10, 3) := by decide +kernel
theorem zd46_111 : zop 46 111 = some (.aload_n 0, 1) := by decide +kernel
theorem zd46_112 : zop 46 112 = some (.invokevirtual 89, 3) := by decide +kernel
theorem zd46_115 : zop 46 115 = some (.goto 67, 3) := by decide +kernel
theorem zd46_118 : zop 46 118 = some (.aload_n 0, 1) := by decide +kernel
theorem zd46_119 : zop 46 119 = some (.getfield 9, 3) := by decide +kernel
theorem zd46_122 : zop 46 122 = some (.aload_n 0, 1) := by decide +kernel
theorem zd46_123 : zop 46 123 = some (.getfield 82, 3) := by decide +kernel
theorem zd46_126 : zop 46 126 = some (.iaload, 1) := by decide +kernel
theorem zd46_127 : zop 46 127 = some (.invokestatic 92, 3) := by decide +kernel
theorem zd46_130 : zop 46 130 = some (.ifCond .eq 10, 3) := by decide +kernel
theorem zd46_133 : zop 46 133 = some (.aload_n 0, 1) := by decide +kernel
theorem zd46_134 : zop 46 134 = some (.invokevirtual 95, 3) := by decide +kernel
theorem zd46_137 : zop 46 137 = some (.goto 45, 3) := by decide +kernel
theorem zd46_140 : zop 46 140 = some (.aload_n 0, 1) := by decide +kernel
theorem zd46_141 : zop 46 141 = some (.aload_n 0, 1) := by decide +kernel
theorem zd46_142 : zop 46 142 = some (.getfield 82, 3) := by decide +kernel
theorem zd46_145 : zop 46 145 = some (.iconst 1, 1) := by decide +kernel
theorem zd46_146 : zop 46 146 = some (.iadd, 1) := by decide +kernel
theorem zd46_147 : zop 46 147 = some (.putfield 35, 3) := by decide +kernel
theorem zd46_150 : zop 46 150 = some (.aload_n 0, 1) := by decide +kernel
theorem zd46_151 : zop 46 151 = some (.aload_n 0, 1) := by decide +kernel
theorem zd46_152 : zop 46 152 = some (.getfield 9, 3) := by decide +kernel
theorem zd46_155 : zop 46 155 = some (.aload_n 0, 1) := by decide +kernel
theorem zd46_156 : zop 46 156 = some (.getfield 82, 3) := by decide +kernel
theorem zd46_159 : zop 46 159 = some (.iaload, 1) := by decide +kernel
theorem zd46_160 : zop 46 160 = some (.invokestatic 98, 3) := by decide +kernel
theorem zd46_163 : zop 46 163 = some (.ifCond .eq 15, 3) := by decide +kernel
theorem zd46_166 : zop 46 166 = some (.aload_n 0, 1) := by decide +kernel
theorem zd46_167 : zop 46 167 = some (.getfield 9, 3) := by decide +kernel
theorem zd46_170 : zop 46 170 = some (.aload_n 0, 1) := by decide +kernel
theorem zd46_171 : zop 46 171 = some (.getfield 82, 3) := by decide +kernel
theorem zd46_174 : zop 46 174 = some (.iaload, 1) := by decide +kernel
theorem zd46_175 : zop 46 175 = some (.goto 4, 3) := by decide +kernel
theorem zd46_178 : zop 46 178 = some (.iconst 1, 1) := by decide +kernel
theorem zd46_179 : zop 46 179 = some (.putfield 54, 3) := by decide +kernel
theorem zd46_182 : zop 46 182 = some (.return_, 1) := by decide +kernel
theorem b46_0 {x : zXs} {F : zF} (hF : zSh F) {d : Nat} {V : Nat → Nat → Int32} {T : Nat → Nat → Int64} {Q : Option Value → zG → Prop}    (kt : (V 45 8) = (Int32.ofInt (-1)) → E x F d 46 9 [some (.ref 45)] [] (V, T) Q) (kf : ¬ ((V 45 8) = (Int32.ofInt (-1))) → E x F d 46 8 [some (.ref 45)] [] (V, T) Q) : E x F d 46 0 [some (.ref 45)] [] (V, T) Q := by
  refine e_aload_n zd46_0 rfl rfl ?_
  refine e_getI zd46_1 (own := 5) (ci := 5) (kf := 8) (w := 257) (by decide +kernel) (by decide +kernel) (zsh_at hF rfl).1 (by decide +kernel) rfl ?_
  refine e_iconst zd46_4 ?_
  exact e_icmp_eq zd46_5 (tg := 9) rfl kt kf
theorem b46_8 {x : zXs} {F : zF} (hF : zSh F) {d : Nat} {V : Nat → Nat → Int32} {T : Nat → Nat → Int64} {Q : Option Value → zG → Prop} {o0 : Option Value}   (k : Q none (V, T)) : E x F d 46 8 [o0] [] (V, T) Q := by
  exact e_vret zd46_8 zs46 k
theorem b46_9 {x : zXs} {F : zF} (hF : zSh F) {d : Nat} {V : Nat → Nat → Int32} {T : Nat → Nat → Int64} {Q : Option Value → zG → Prop}    (k : E x F d 46 17 [some (.ref 45)] [] (zu V 45 5 (V 45 6), T) Q) : E x F d 46 9 [some (.ref 45)] [] (V, T) Q := by
  refine e_aload_n zd46_9 rfl rfl ?_
  refine e_aload_n zd46_10 rfl rfl ?_
  refine e_getI zd46_11 (own := 5) (ci := 5) (kf := 6) (w := 255) (by decide +kernel) (by decide +kernel) (zsh_at hF rfl).1 (by decide +kernel) rfl ?_
  refine e_putI zd46_14 (own := 5) (ci := 5) (kf := 5) (w := 254) (by decide +kernel) (by decide +kernel) (zsh_at hF rfl).1 (by decide +kernel) rfl ?_
  exact k
theorem b46_17 {x : zXs} {F : zF} (hF : zSh F) {d : Nat} {V : Nat → Nat → Int32} {T : Nat → Nat → Int64} {Q : Option Value → zG → Prop}    (kt : (V 45 1) ≤ (V 45 5) → E x F d 46 69 [some (.ref 45)] [] (V, T) Q) (kf : ¬ ((V 45 1) ≤ (V 45 5)) → E x F d 46 28 [some (.ref 45)] [] (V, T) Q) : E x F d 46 17 [some (.ref 45)] [] (V, T) Q := by
  refine e_aload_n zd46_17 rfl rfl ?_
  refine e_getI zd46_18 (own := 5) (ci := 5) (kf := 5) (w := 254) (by decide +kernel) (by decide +kernel) (zsh_at hF rfl).1 (by decide +kernel) rfl ?_
  refine e_aload_n zd46_21 rfl rfl ?_
  refine e_getI zd46_22 (own := 5) (ci := 5) (kf := 1) (w := 248) (by decide +kernel) (by decide +kernel) (zsh_at hF rfl).1 (by decide +kernel) rfl ?_
  exact e_icmp_ge zd46_25 (tg := 69) rfl kt kf
theorem b46_28 {x : zXs} {F : zF} (hF : zSh F) {d : Nat} {V : Nat → Nat → Int32} {T : Nat → Nat → Int64} {Q : Option Value → zG → Prop}   {i1 : Nat} (e1 : V 45 5 = nI i1) (h1 : i1 < 160) (kt : (V 46 i1) = (Int32.ofInt 32) → E x F d 46 56 [some (.ref 45)] [] (V, T) Q) (kf : ¬ ((V 46 i1) = (Int32.ofInt 32)) → E x F d 46 42 [some (.ref 45)] [] (V, T) Q) : E x F d 46 28 [some (.ref 45)] [] (V, T) Q := by
  refine e_aload_n zd46_28 rfl rfl ?_
  refine e_getA zd46_29 (own := 5) (ci := 5) (kf := 0) (w := 247) (by decide +kernel) (by decide +kernel) (zsh_at hF rfl).1 (by decide +kernel) rfl (zrf_at hF (i := 47) rfl) ?_
  refine e_aload_n zd46_32 rfl rfl ?_
  refine e_getI zd46_33 (own := 5) (ci := 5) (kf := 5) (w := 254) (by decide +kernel) (by decide +kernel) (zsh_at hF rfl).1 (by decide +kernel) rfl ?_
  refine e_iald zd46_36 (i := i1) (zsh_at hF rfl) e1 h1 (by omega) ?_
  refine e_bipush zd46_37 (v := Int32.ofInt 32) (by decide +kernel) ?_
  exact e_icmp_eq zd46_39 (tg := 56) rfl kt kf
theorem b46_42 {x : zXs} {F : zF} (hF : zSh F) {d : Nat} {V : Nat → Nat → Int32} {T : Nat → Nat → Int64} {Q : Option Value → zG → Prop}   {i1 : Nat} (e1 : V 45 5 = nI i1) (h1 : i1 < 160) (kt : ¬ (V 46 i1) = (Int32.ofInt 10) → E x F d 46 69 [some (.ref 45)] [] (V, T) Q) (kf : ¬ (¬ (V 46 i1) = (Int32.ofInt 10)) → E x F d 46 56 [some (.ref 45)] [] (V, T) Q) : E x F d 46 42 [some (.ref 45)] [] (V, T) Q := by
  refine e_aload_n zd46_42 rfl rfl ?_
  refine e_getA zd46_43 (own := 5) (ci := 5) (kf := 0) (w := 247) (by decide +kernel) (by decide +kernel) (zsh_at hF rfl).1 (by decide +kernel) rfl (zrf_at hF (i := 47) rfl) ?_
  refine e_aload_n zd46_46 rfl rfl ?_
  refine e_getI zd46_47 (own := 5) (ci := 5) (kf := 5) (w := 254) (by decide +kernel) (by decide +kernel) (zsh_at hF rfl).1 (by decide +kernel) rfl ?_
  refine e_iald zd46_50 (i := i1) (zsh_at hF rfl) e1 h1 (by omega) ?_
  refine e_bipush zd46_51 (v := Int32.ofInt 10) (by decide +kernel) ?_
  exact e_icmp_ne zd46_53 (tg := 69) rfl kt kf
theorem b46_56 {x : zXs} {F : zF} (hF : zSh F) {d : Nat} {V : Nat → Nat → Int32} {T : Nat → Nat → Int64} {Q : Option Value → zG → Prop}    (k : E x F d 46 17 [some (.ref 45)] [] (zu V 45 5 ((V 45 5) + (Int32.ofInt 1)), T) Q) : E x F d 46 56 [some (.ref 45)] [] (V, T) Q := by
  refine e_aload_n zd46_56 rfl rfl ?_
  refine e_dup zd46_57 rfl ?_
  refine e_getI zd46_58 (own := 5) (ci := 5) (kf := 5) (w := 254) (by decide +kernel) (by decide +kernel) (zsh_at hF rfl).1 (by decide +kernel) rfl ?_
  refine e_iconst zd46_61 ?_
  refine e_iadd zd46_62 ?_
  refine e_putI zd46_63 (own := 5) (ci := 5) (kf := 5) (w := 254) (by decide +kernel) (by decide +kernel) (zsh_at hF rfl).1 (by decide +kernel) rfl ?_
  exact e_goto zd46_66 (tg := 17) rfl k
theorem b46_69 {x : zXs} {F : zF} (hF : zSh F) {d : Nat} {V : Nat → Nat → Int32} {T : Nat → Nat → Int64} {Q : Option Value → zG → Prop}    (kt : (V 45 5) < (V 45 1) → E x F d 46 96 [some (.ref 45)] [] (V, T) Q) (kf : ¬ ((V 45 5) < (V 45 1)) → E x F d 46 80 [some (.ref 45)] [] (V, T) Q) : E x F d 46 69 [some (.ref 45)] [] (V, T) Q := by
  refine e_aload_n zd46_69 rfl rfl ?_
  refine e_getI zd46_70 (own := 5) (ci := 5) (kf := 5) (w := 254) (by decide +kernel) (by decide +kernel) (zsh_at hF rfl).1 (by decide +kernel) rfl ?_
  refine e_aload_n zd46_73 rfl rfl ?_
  refine e_getI zd46_74 (own := 5) (ci := 5) (kf := 1) (w := 248) (by decide +kernel) (by decide +kernel) (zsh_at hF rfl).1 (by decide +kernel) rfl ?_
  exact e_icmp_lt zd46_77 (tg := 96) rfl kt kf
theorem b46_80 {x : zXs} {F : zF} (hF : zSh F) {d : Nat} {V : Nat → Nat → Int32} {T : Nat → Nat → Int64} {Q : Option Value → zG → Prop}    (k : E x F d 46 182 [some (.ref 45)] [] (zu (zu V 45 6 (V 45 1)) 45 3 (Int32.ofInt 0), T) Q) : E x F d 46 80 [some (.ref 45)] [] (V, T) Q := by
  refine e_aload_n zd46_80 rfl rfl ?_
  refine e_aload_n zd46_81 rfl rfl ?_
  refine e_getI zd46_82 (own := 5) (ci := 5) (kf := 1) (w := 248) (by decide +kernel) (by decide +kernel) (zsh_at hF rfl).1 (by decide +kernel) rfl ?_
  refine e_putI zd46_85 (own := 5) (ci := 5) (kf := 6) (w := 255) (by decide +kernel) (by decide +kernel) (zsh_at hF rfl).1 (by decide +kernel) rfl ?_
  refine e_aload_n zd46_88 rfl rfl ?_
  refine e_iconst zd46_89 ?_
  refine e_putI zd46_90 (own := 5) (ci := 5) (kf := 3) (w := 252) (by decide +kernel) (by decide +kernel) (zsh_at hF rfl).1 (by decide +kernel) rfl ?_
  exact e_goto zd46_93 (tg := 182) rfl k
theorem b46_96 {x : zXs} {F : zF} (hF : zSh F) {d : Nat} {V : Nat → Nat → Int32} {T : Nat → Nat → Int64} {Q : Option Value → zG → Prop}   {i1 : Nat} (e1 : V 45 5 = nI i1) (h1 : i1 < 160) (k : E x F d 47 0 [some (.int (V 46 i1))] [] (V, T) (fun r G' => E x F (d + 1) 46 108 [some (.ref 45)] (r.toList ++ []) G' Q)) : E x F (d + 1) 46 96 [some (.ref 45)] [] (V, T) Q := by
  refine e_aload_n zd46_96 rfl rfl ?_
  refine e_getA zd46_97 (own := 5) (ci := 5) (kf := 0) (w := 247) (by decide +kernel) (by decide +kernel) (zsh_at hF rfl).1 (by decide +kernel) rfl (zrf_at hF (i := 47) rfl) ?_
  refine e_aload_n zd46_100 rfl rfl ?_
  refine e_getI zd46_101 (own := 5) (ci := 5) (kf := 5) (w := 254) (by decide +kernel) (by decide +kernel) (zsh_at hF rfl).1 (by decide +kernel) rfl ?_
  refine e_iald zd46_104 (i := i1) (zsh_at hF rfl) e1 h1 (by omega) ?_
  exact e_callS zd46_105 (own := 5) (nest := false) (w := 476) (by decide +kernel) (by decide +kernel) zs47 (as := [.int (V 46 i1)]) (rest := []) rfl rfl (Nat.le_of_ble_eq_true rfl) rfl rfl rfl (by omega) k
theorem b46_108 {x : zXs} {F : zF} (hF : zSh F) {d : Nat} {V : Nat → Nat → Int32} {T : Nat → Nat → Int64} {Q : Option Value → zG → Prop} {o0 : Option Value} {s0 : Int32}   (kt : s0 = 0 → E x F d 46 118 [o0] [] (V, T) Q) (kf : ¬ (s0 = 0) → E x F d 46 111 [o0] [] (V, T) Q) : E x F d 46 108 [o0] [.int s0] (V, T) Q := by
  exact e_if_eq zd46_108 (tg := 118) rfl kt kf
theorem b46_111 {x : zXs} {F : zF} (hF : zSh F) {d : Nat} {V : Nat → Nat → Int32} {T : Nat → Nat → Int64} {Q : Option Value → zG → Prop}    (k : E x F d 48 0 [some (.ref 45), none] [] (V, T) (fun r G' => E x F (d + 1) 46 115 [some (.ref 45)] (r.toList ++ []) G' Q)) : E x F (d + 1) 46 111 [some (.ref 45)] [] (V, T) Q := by
  refine e_aload_n zd46_111 rfl rfl ?_
  exact e_callV zd46_112 (own := 5) (nest := false) (w := 479) (by decide +kernel) (by decide +kernel) zs48 (as := []) (rest := []) rfl rfl (zsh_at hF rfl).1 (by omega) (Nat.le_of_ble_eq_true rfl) rfl rfl rfl (by omega) k
theorem b46_115 {x : zXs} {F : zF} (hF : zSh F) {d : Nat} {V : Nat → Nat → Int32} {T : Nat → Nat → Int64} {Q : Option Value → zG → Prop} {o0 : Option Value}   (k : E x F d 46 182 [o0] [] (V, T) Q) : E x F d 46 115 [o0] [] (V, T) Q := by
  exact e_goto zd46_115 (tg := 182) rfl k
theorem b46_118 {x : zXs} {F : zF} (hF : zSh F) {d : Nat} {V : Nat → Nat → Int32} {T : Nat → Nat → Int64} {Q : Option Value → zG → Prop}   {i1 : Nat} (e1 : V 45 5 = nI i1) (h1 : i1 < 160) (k : E x F d 58 0 [some (.int (V 46 i1))] [] (V, T) (fun r G' => E x F (d + 1) 46 130 [some (.ref 45)] (r.toList ++ []) G' Q)) : E x F (d + 1) 46 118 [some (.ref 45)] [] (V, T) Q := by
  refine e_aload_n zd46_118 rfl rfl ?_
  refine e_getA zd46_119 (own := 5) (ci := 5) (kf := 0) (w := 247) (by decide +kernel) (by decide +kernel) (zsh_at hF rfl).1 (by decide +kernel) rfl (zrf_at hF (i := 47) rfl) ?_
  refine e_aload_n zd46_122 rfl rfl ?_
  refine e_getI zd46_123 (own := 5) (ci := 5) (kf := 5) (w := 254) (by decide +kernel) (by decide +kernel) (zsh_at hF rfl).1 (by decide +kernel) rfl ?_
  refine e_iald zd46_126 (i := i1) (zsh_at hF rfl) e1 h1 (by omega) ?_
  exact e_callS zd46_127 (own := 5) (nest := false) (w := 550) (by decide +kernel) (by decide +kernel) zs58 (as := [.int (V 46 i1)]) (rest := []) rfl rfl (Nat.le_of_ble_eq_true rfl) rfl rfl rfl (by omega) k
theorem b46_130 {x : zXs} {F : zF} (hF : zSh F) {d : Nat} {V : Nat → Nat → Int32} {T : Nat → Nat → Int64} {Q : Option Value → zG → Prop} {o0 : Option Value} {s0 : Int32}   (kt : s0 = 0 → E x F d 46 140 [o0] [] (V, T) Q) (kf : ¬ (s0 = 0) → E x F d 46 133 [o0] [] (V, T) Q) : E x F d 46 130 [o0] [.int s0] (V, T) Q := by
  exact e_if_eq zd46_130 (tg := 140) rfl kt kf
theorem b46_133 {x : zXs} {F : zF} (hF : zSh F) {d : Nat} {V : Nat → Nat → Int32} {T : Nat → Nat → Int64} {Q : Option Value → zG → Prop}    (k : E x F d 59 0 [some (.ref 45)] [] (V, T) (fun r G' => E x F (d + 1) 46 137 [some (.ref 45)] (r.toList ++ []) G' Q)) : E x F (d + 1) 46 133 [some (.ref 45)] [] (V, T) Q := by
  refine e_aload_n zd46_133 rfl rfl ?_
  exact e_callV zd46_134 (own := 5) (nest := false) (w := 553) (by decide +kernel) (by decide +kernel) zs59 (as := []) (rest := []) rfl rfl (zsh_at hF rfl).1 (by omega) (Nat.le_of_ble_eq_true rfl) rfl rfl rfl (by omega) k
theorem b46_137 {x : zXs} {F : zF} (hF : zSh F) {d : Nat} {V : Nat → Nat → Int32} {T : Nat → Nat → Int64} {Q : Option Value → zG → Prop} {o0 : Option Value}   (k : E x F d 46 182 [o0] [] (V, T) Q) : E x F d 46 137 [o0] [] (V, T) Q := by
  exact e_goto zd46_137 (tg := 182) rfl k
theorem b46_140 {x : zXs} {F : zF} (hF : zSh F) {d : Nat} {V : Nat → Nat → Int32} {T : Nat → Nat → Int64} {Q : Option Value → zG → Prop}   {i1 : Nat} (e1 : (zu V 45 6 ((V 45 5) + (Int32.ofInt 1))) 45 5 = nI i1) (h1 : i1 < 160) (k : E x F d 60 0 [some (.int ((zu V 45 6 ((V 45 5) + (Int32.ofInt 1))) 46 i1))] [] (zu V 45 6 ((V 45 5) + (Int32.ofInt 1)), T) (fun r G' => E x F (d + 1) 46 163 [some (.ref 45)] (r.toList ++ [.ref 45]) G' Q)) : E x F (d + 1) 46 140 [some (.ref 45)] [] (V, T) Q := by
  refine e_aload_n zd46_140 rfl rfl ?_
  refine e_aload_n zd46_141 rfl rfl ?_
  refine e_getI zd46_142 (own := 5) (ci := 5) (kf := 5) (w := 254) (by decide +kernel) (by decide +kernel) (zsh_at hF rfl).1 (by decide +kernel) rfl ?_
  refine e_iconst zd46_145 ?_
  refine e_iadd zd46_146 ?_
  refine e_putI zd46_147 (own := 5) (ci := 5) (kf := 6) (w := 255) (by decide +kernel) (by decide +kernel) (zsh_at hF rfl).1 (by decide +kernel) rfl ?_
  refine e_aload_n zd46_150 rfl rfl ?_
  refine e_aload_n zd46_151 rfl rfl ?_
  refine e_getA zd46_152 (own := 5) (ci := 5) (kf := 0) (w := 247) (by decide +kernel) (by decide +kernel) (zsh_at hF rfl).1 (by decide +kernel) rfl (zrf_at hF (i := 47) rfl) ?_
  refine e_aload_n zd46_155 rfl rfl ?_
  refine e_getI zd46_156 (own := 5) (ci := 5) (kf := 5) (w := 254) (by decide +kernel) (by decide +kernel) (zsh_at hF rfl).1 (by decide +kernel) rfl ?_
  refine e_iald zd46_159 (i := i1) (zsh_at hF rfl) e1 h1 (by omega) ?_
  exact e_callS zd46_160 (own := 5) (nest := false) (w := 557) (by decide +kernel) (by decide +kernel) zs60 (as := [.int ((zu V 45 6 ((V 45 5) + (Int32.ofInt 1))) 46 i1)]) (rest := [.ref 45]) rfl rfl (Nat.le_of_ble_eq_true rfl) rfl rfl rfl (by omega) k
theorem b46_163 {x : zXs} {F : zF} (hF : zSh F) {d : Nat} {V : Nat → Nat → Int32} {T : Nat → Nat → Int64} {Q : Option Value → zG → Prop} {o0 : Option Value} {s1 : Int32}   (kt : s1 = 0 → E x F d 46 178 [o0] [.ref 45] (V, T) Q) (kf : ¬ (s1 = 0) → E x F d 46 166 [o0] [.ref 45] (V, T) Q) : E x F d 46 163 [o0] [.int s1, .ref 45] (V, T) Q := by
  exact e_if_eq zd46_163 (tg := 178) rfl kt kf
theorem b46_166 {x : zXs} {F : zF} (hF : zSh F) {d : Nat} {V : Nat → Nat → Int32} {T : Nat → Nat → Int64} {Q : Option Value → zG → Prop}   {i1 : Nat} (e1 : V 45 5 = nI i1) (h1 : i1 < 160) (k : E x F d 46 179 [some (.ref 45)] [.int (V 46 i1), .ref 45] (V, T) Q) : E x F d 46 166 [some (.ref 45)] [.ref 45] (V, T) Q := by
  refine e_aload_n zd46_166 rfl rfl ?_
  refine e_getA zd46_167 (own := 5) (ci := 5) (kf := 0) (w := 247) (by decide +kernel) (by decide +kernel) (zsh_at hF rfl).1 (by decide +kernel) rfl (zrf_at hF (i := 47) rfl) ?_
  refine e_aload_n zd46_170 rfl rfl ?_
  refine e_getI zd46_171 (own := 5) (ci := 5) (kf := 5) (w := 254) (by decide +kernel) (by decide +kernel) (zsh_at hF rfl).1 (by decide +kernel) rfl ?_
  refine e_iald zd46_174 (i := i1) (zsh_at hF rfl) e1 h1 (by omega) ?_
  exact e_goto zd46_175 (tg := 179) rfl k
theorem b46_178 {x : zXs} {F : zF} (hF : zSh F) {d : Nat} {V : Nat → Nat → Int32} {T : Nat → Nat → Int64} {Q : Option Value → zG → Prop} {o0 : Option Value}   (k : E x F d 46 179 [o0] [.int (Int32.ofInt 1), .ref 45] (V, T) Q) : E x F d 46 178 [o0] [.ref 45] (V, T) Q := by
  refine e_iconst zd46_178 ?_
  exact k
theorem b46_179 {x : zXs} {F : zF} (hF : zSh F) {d : Nat} {V : Nat → Nat → Int32} {T : Nat → Nat → Int64} {Q : Option Value → zG → Prop} {o0 : Option Value} {s1 : Int32}   (k : E x F d 46 182 [o0] [] (zu V 45 3 s1, T) Q) : E x F d 46 179 [o0] [.int s1, .ref 45] (V, T) Q := by
  refine e_putI zd46_179 (own := 5) (ci := 5) (kf := 3) (w := 252) (by decide +kernel) (by decide +kernel) (zsh_at hF rfl).1 (by decide +kernel) rfl ?_
  exact k
theorem b46_182 {x : zXs} {F : zF} (hF : zSh F) {d : Nat} {V : Nat → Nat → Int32} {T : Nat → Nat → Int64} {Q : Option Value → zG → Prop} {o0 : Option Value}   (k : Q none (V, T)) : E x F d 46 182 [o0] [] (V, T) Q := by
  exact e_vret zd46_182 zs46 k
theorem zd47_0 : zop 47 0 = some (.iload_n 0, 1) := by decide +kernel
theorem zd47_1 : zop 47 1 = some (.bipush 97, 2) := by decide +kernel
theorem zd47_3 : zop 47 3 = some (.if_icmp .lt 13, 3) := by decide +kernel
theorem zd47_6 : zop 47 6 = some (.iload_n 0, 1) := by decide +kernel
theorem zd47_7 : zop 47 7 = some (.bipush 122, 2) := by decide +kernel
theorem zd47_9 : zop 47 9 = some (.if_icmp .gt 7, 3) := by decide +kernel
theorem zd47_12 : zop 47 12 = some (.iconst 1, 1) := by decide +kernel
theorem zd47_13 : zop 47 13 = some (.goto 4, 3) := by decide +kernel
theorem zd47_16 : zop 47 16 = some (.iconst 0, 1) := by decide +kernel
theorem zd47_17 : zop 47 17 = some (.ireturn, 1) := by decide +kernel
theorem b47_0 {x : zXs} {F : zF} (hF : zSh F) {d : Nat} {V : Nat → Nat → Int32} {T : Nat → Nat → Int64} {Q : Option Value → zG → Prop} {l0 : Int32}   (kt : l0 < (Int32.ofInt 97) → E x F d 47 16 [some (.int l0)] [] (V, T) Q) (kf : ¬ (l0 < (Int32.ofInt 97)) → E x F d 47 6 [some (.int l0)] [] (V, T) Q) : E x F d 47 0 [some (.int l0)] [] (V, T) Q := by
  refine e_iload_n zd47_0 rfl ?_
  refine e_bipush zd47_1 (v := Int32.ofInt 97) (by decide +kernel) ?_
  exact e_icmp_lt zd47_3 (tg := 16) rfl kt kf
theorem b47_6 {x : zXs} {F : zF} (hF : zSh F) {d : Nat} {V : Nat → Nat → Int32} {T : Nat → Nat → Int64} {Q : Option Value → zG → Prop} {l0 : Int32}   (kt : (Int32.ofInt 122) < l0 → E x F d 47 16 [some (.int l0)] [] (V, T) Q) (kf : ¬ ((Int32.ofInt 122) < l0) → E x F d 47 12 [some (.int l0)] [] (V, T) Q) : E x F d 47 6 [some (.int l0)] [] (V, T) Q := by
  refine e_iload_n zd47_6 rfl ?_
  refine e_bipush zd47_7 (v := Int32.ofInt 122) (by decide +kernel) ?_
  exact e_icmp_gt zd47_9 (tg := 16) rfl kt kf
theorem b47_12 {x : zXs} {F : zF} (hF : zSh F) {d : Nat} {V : Nat → Nat → Int32} {T : Nat → Nat → Int64} {Q : Option Value → zG → Prop} {o0 : Option Value}   (k : E x F d 47 17 [o0] [.int (Int32.ofInt 1)] (V, T) Q) : E x F d 47 12 [o0] [] (V, T) Q := by
  refine e_iconst zd47_12 ?_
  exact e_goto zd47_13 (tg := 17) rfl k
theorem b47_16 {x : zXs} {F : zF} (hF : zSh F) {d : Nat} {V : Nat → Nat → Int32} {T : Nat → Nat → Int64} {Q : Option Value → zG → Prop} {o0 : Option Value}   (k : E x F d 47 17 [o0] [.int (Int32.ofInt 0)] (V, T) Q) : E x F d 47 16 [o0] [] (V, T) Q := by
  refine e_iconst zd47_16 ?_
  exact k
theorem b47_17 {x : zXs} {F : zF} (hF : zSh F) {d : Nat} {V : Nat → Nat → Int32} {T : Nat → Nat → Int64} {Q : Option Value → zG → Prop} {o0 : Option Value} {s0 : Int32}  (b1 : narrow .boolean (.int s0) = .int s0) (k : Q (some (.int s0)) (V, T)) : E x F d 47 17 [o0] [.int s0] (V, T) Q := by
  exact e_iretz zd47_17 zs47 b1 k
theorem zd48_0 : zop 48 0 = some (.aload_n 0, 1) := by decide +kernel
theorem zd48_1 : zop 48 1 = some (.aload_n 0, 1) := by decide +kernel
theorem zd48_2 : zop 48 2 = some (.getfield 82, 3) := by decide +kernel
theorem zd48_5 : zop 48 5 = some (.putfield 35, 3) := by decide +kernel
theorem zd48_8 : zop 48 8 = some (.aload_n 0, 1) := by decide +kernel
theorem zd48_9 : zop 48 9 = some (.getfield 35, 3) := by decide +kernel
theorem zd48_12 : zop 48 12 = some (.aload_n 0, 1) := by decide +kernel
theorem zd48_13 : zop 48 13 = some (.getfield 22, 3) := by decide +kernel
theorem zd48_16 : zop 48 16 = some (.if_icmp .ge 31, 3) := by decide +kernel
theorem zd48_19 : zop 48 19 = some (.aload_n 0, 1) := by decide +kernel
theorem zd48_20 : zop 48 20 = some (.getfield 9, 3) := by decide +kernel
theorem zd48_23 : zop 48 23 = some (.aload_n 0, 1) := by decide +kernel
theorem zd48_24 : zop 48 24 = some (.getfield 35, 3) := by decide +kernel
theorem zd48_27 : zop 48 27 = some (.iaload, 1) := by decide +kernel
theorem zd48_28 : zop 48 28 = some (.invokestatic 85, 3) := by decide +kernel
theorem zd48_31 : zop 48 31 = some (.ifCond .eq 16, 3) := by decide +kernel
theorem zd48_34 : zop 48 34 = some (.aload_n 0, 1) := by decide +kernel
theorem zd48_35 : zop 48 35 = some (.dup, 1) := by decide +kernel
theorem zd48_36 : zop 48 36 = some (.getfield 35, 3) := by decide +kernel
theorem zd48_39 : zop 48 39 = some (.iconst 1, 1) := by decide +kernel
theorem zd48_40 : zop 48 40 = some (.iadd, 1) := by decide +kernel
theorem zd48_41 : zop 48 41 = some (.putfield 35, 3) := by decide +kernel
theorem zd48_44 : zop 48 44 = some (.goto (-36), 3) := by decide +kernel
theorem zd48_47 : zop 48 47 = some (.aload_n 0, 1) := by decide +kernel
theorem zd48_48 : zop 48 48 = some (.iconst 1, 1) := by decide +kernel
theorem zd48_49 : zop 48 49 = some (.putfield 54, 3) := by decide +kernel
theorem zd48_52 : zop 48 52 = some (.iconst 0, 1) := by decide +kernel
theorem zd48_53 : zop 48 53 = some (.istore_n 1, 1) := by decide +kernel
theorem zd48_54 : zop 48 54 = some (.iload_n 1, 1) := by decide +kernel
theorem zd48_55 : zop 48 55 = some (.bipush 12, 2) := by decide +kernel
theorem zd48_57 : zop 48 57 = some (.if_icmp .ge 45, 3) := by decide +kernel
theorem zd48_60 : zop 48 60 = some (.aload_n 0, 1) := by decide +kernel
theorem zd48_61 : zop 48 61 = some (.iload_n 1, 1) := by decide +kernel
theorem zd48_62 : zop 48 62 = some (.invokestatic 101, 3) := by decide +kernel
theorem zd48_65 : zop 48 65 = some (.invokevirtual 105, 3) := by decide +kernel
theorem zd48_68 : zop 48 68 = some (.ifCond .eq 28, 3) := by decide +kernel
theorem zd48_71 : zop 48 71 = some (.aload_n 0, 1) := by decide +kernel
theorem zd48_72 : zop 48 72 = some (.iload_n 1, 1) := by decide +kernel
theorem zd48_73 : zop 48 73 = some (.bipush 6, 2) := by decide +kernel
theorem zd48_75 : zop 48 75 = some (.if_icmp .ge 7, 3) := by decide +kernel
theorem zd48_78 : zop 48 78 = some (.iconst 3, 1) := by decide +kernel
theorem zd48_79 : zop 48 79 = some (.goto 9, 3) := by decide +kernel
theorem zd48_82 : zop 48 82 = some (.iconst 4, 1) := by decide +kernel
theorem zd48_83 : zop 48 83 = some (.iload_n 1, 1) := by decide +kernel
theorem zd48_84 : zop 48 84 = some (.iadd, 1) := by decide +kernel
theorem zd48_85 : zop 48 85 = some (.bipush 6, 2) := by decide +kernel
theorem zd48_87 : zop 48 87 = some (.isub, 1) := by decide +kernel
theorem zd48_88 : zop 48 88 = some (.putfield 54, 3) := by decide +kernel
theorem zd48_91 : zop 48 91 = some (.aload_n 0, 1) := by decide +kernel
theorem zd48_92 : zop 48 92 = some (.iload_n 1, 1) := by decide +kernel
theorem zd48_93 : zop 48 93 = some (.putfield 76, 3) := by decide +kernel
theorem zd48_96 : zop 48 96 = some (.iinc 1 1, 3) := by decide +kernel
theorem zd48_99 : zop 48 99 = some (.goto (-45), 3) := by decide +kernel
theorem zd48_102 : zop 48 102 = some (.return_, 1) := by decide +kernel
theorem b48_0 {x : zXs} {F : zF} (hF : zSh F) {d : Nat} {V : Nat → Nat → Int32} {T : Nat → Nat → Int64} {Q : Option Value → zG → Prop} {o1 : Option Value}   (k : E x F d 48 8 [some (.ref 45), o1] [] (zu V 45 6 (V 45 5), T) Q) : E x F d 48 0 [some (.ref 45), o1] [] (V, T) Q := by
  refine e_aload_n zd48_0 rfl rfl ?_
  refine e_aload_n zd48_1 rfl rfl ?_
  refine e_getI zd48_2 (own := 5) (ci := 5) (kf := 5) (w := 254) (by decide +kernel) (by decide +kernel) (zsh_at hF rfl).1 (by decide +kernel) rfl ?_
  refine e_putI zd48_5 (own := 5) (ci := 5) (kf := 6) (w := 255) (by decide +kernel) (by decide +kernel) (zsh_at hF rfl).1 (by decide +kernel) rfl ?_
  exact k
theorem b48_8 {x : zXs} {F : zF} (hF : zSh F) {d : Nat} {V : Nat → Nat → Int32} {T : Nat → Nat → Int64} {Q : Option Value → zG → Prop} {o1 : Option Value}   (kt : (V 45 1) ≤ (V 45 6) → E x F d 48 47 [some (.ref 45), o1] [] (V, T) Q) (kf : ¬ ((V 45 1) ≤ (V 45 6)) → E x F d 48 19 [some (.ref 45), o1] [] (V, T) Q) : E x F d 48 8 [some (.ref 45), o1] [] (V, T) Q := by
  refine e_aload_n zd48_8 rfl rfl ?_
  refine e_getI zd48_9 (own := 5) (ci := 5) (kf := 6) (w := 255) (by decide +kernel) (by decide +kernel) (zsh_at hF rfl).1 (by decide +kernel) rfl ?_
  refine e_aload_n zd48_12 rfl rfl ?_
  refine e_getI zd48_13 (own := 5) (ci := 5) (kf := 1) (w := 248) (by decide +kernel) (by decide +kernel) (zsh_at hF rfl).1 (by decide +kernel) rfl ?_
  exact e_icmp_ge zd48_16 (tg := 47) rfl kt kf
theorem b48_19 {x : zXs} {F : zF} (hF : zSh F) {d : Nat} {V : Nat → Nat → Int32} {T : Nat → Nat → Int64} {Q : Option Value → zG → Prop} {o1 : Option Value}  {i1 : Nat} (e1 : V 45 6 = nI i1) (h1 : i1 < 160) (k : E x F d 47 0 [some (.int (V 46 i1))] [] (V, T) (fun r G' => E x F (d + 1) 48 31 [some (.ref 45), o1] (r.toList ++ []) G' Q)) : E x F (d + 1) 48 19 [some (.ref 45), o1] [] (V, T) Q := by
  refine e_aload_n zd48_19 rfl rfl ?_
  refine e_getA zd48_20 (own := 5) (ci := 5) (kf := 0) (w := 247) (by decide +kernel) (by decide +kernel) (zsh_at hF rfl).1 (by decide +kernel) rfl (zrf_at hF (i := 47) rfl) ?_
  refine e_aload_n zd48_23 rfl rfl ?_
  refine e_getI zd48_24 (own := 5) (ci := 5) (kf := 6) (w := 255) (by decide +kernel) (by decide +kernel) (zsh_at hF rfl).1 (by decide +kernel) rfl ?_
  refine e_iald zd48_27 (i := i1) (zsh_at hF rfl) e1 h1 (by omega) ?_
  exact e_callS zd48_28 (own := 5) (nest := false) (w := 476) (by decide +kernel) (by decide +kernel) zs47 (as := [.int (V 46 i1)]) (rest := []) rfl rfl (Nat.le_of_ble_eq_true rfl) rfl rfl rfl (by omega) k
theorem b48_31 {x : zXs} {F : zF} (hF : zSh F) {d : Nat} {V : Nat → Nat → Int32} {T : Nat → Nat → Int64} {Q : Option Value → zG → Prop} {o0 : Option Value} {o1 : Option Value} {s0 : Int32}   (kt : s0 = 0 → E x F d 48 47 [o0, o1] [] (V, T) Q) (kf : ¬ (s0 = 0) → E x F d 48 34 [o0, o1] [] (V, T) Q) : E x F d 48 31 [o0, o1] [.int s0] (V, T) Q := by
  exact e_if_eq zd48_31 (tg := 47) rfl kt kf
theorem b48_34 {x : zXs} {F : zF} (hF : zSh F) {d : Nat} {V : Nat → Nat → Int32} {T : Nat → Nat → Int64} {Q : Option Value → zG → Prop} {o1 : Option Value}   (k : E x F d 48 8 [some (.ref 45), o1] [] (zu V 45 6 ((V 45 6) + (Int32.ofInt 1)), T) Q) : E x F d 48 34 [some (.ref 45), o1] [] (V, T) Q := by
  refine e_aload_n zd48_34 rfl rfl ?_
  refine e_dup zd48_35 rfl ?_
  refine e_getI zd48_36 (own := 5) (ci := 5) (kf := 6) (w := 255) (by decide +kernel) (by decide +kernel) (zsh_at hF rfl).1 (by decide +kernel) rfl ?_
  refine e_iconst zd48_39 ?_
  refine e_iadd zd48_40 ?_
  refine e_putI zd48_41 (own := 5) (ci := 5) (kf := 6) (w := 255) (by decide +kernel) (by decide +kernel) (zsh_at hF rfl).1 (by decide +kernel) rfl ?_
  exact e_goto zd48_44 (tg := 8) rfl k
theorem b48_47 {x : zXs} {F : zF} (hF : zSh F) {d : Nat} {V : Nat → Nat → Int32} {T : Nat → Nat → Int64} {Q : Option Value → zG → Prop} {o1 : Option Value}   (k : E x F d 48 54 [some (.ref 45), some (.int (Int32.ofInt 0))] [] (zu V 45 3 (Int32.ofInt 1), T) Q) : E x F d 48 47 [some (.ref 45), o1] [] (V, T) Q := by
  refine e_aload_n zd48_47 rfl rfl ?_
  refine e_iconst zd48_48 ?_
  refine e_putI zd48_49 (own := 5) (ci := 5) (kf := 3) (w := 252) (by decide +kernel) (by decide +kernel) (zsh_at hF rfl).1 (by decide +kernel) rfl ?_
  refine e_iconst zd48_52 ?_
  refine e_istore_n zd48_53 (by decide +kernel) (Nat.le_of_ble_eq_true rfl) ?_
  exact k
theorem b48_54 {x : zXs} {F : zF} (hF : zSh F) {d : Nat} {V : Nat → Nat → Int32} {T : Nat → Nat → Int64} {Q : Option Value → zG → Prop} {o0 : Option Value} {l1 : Int32}   (kt : (Int32.ofInt 12) ≤ l1 → E x F d 48 102 [o0, some (.int l1)] [] (V, T) Q) (kf : ¬ ((Int32.ofInt 12) ≤ l1) → E x F d 48 60 [o0, some (.int l1)] [] (V, T) Q) : E x F d 48 54 [o0, some (.int l1)] [] (V, T) Q := by
  refine e_iload_n zd48_54 rfl ?_
  refine e_bipush zd48_55 (v := Int32.ofInt 12) (by decide +kernel) ?_
  exact e_icmp_ge zd48_57 (tg := 102) rfl kt kf
theorem b48_60 {x : zXs} {F : zF} (hF : zSh F) {d : Nat} {V : Nat → Nat → Int32} {T : Nat → Nat → Int64} {Q : Option Value → zG → Prop} {l1 : Int32}   (k : E x F d 49 0 [some (.int l1)] [] (V, T) (fun r G' => E x F (d + 1) 48 65 [some (.ref 45), some (.int l1)] (r.toList ++ [.ref 45]) G' Q)) : E x F (d + 1) 48 60 [some (.ref 45), some (.int l1)] [] (V, T) Q := by
  refine e_aload_n zd48_60 rfl rfl ?_
  refine e_iload_n zd48_61 rfl ?_
  exact e_callS zd48_62 (own := 5) (nest := false) (w := 483) (by decide +kernel) (by decide +kernel) zs49 (as := [.int l1]) (rest := [.ref 45]) rfl rfl (Nat.le_of_ble_eq_true rfl) rfl rfl rfl (by omega) k
theorem b48_65 {x : zXs} {F : zF} (hF : zSh F) {d : Nat} {V : Nat → Nat → Int32} {T : Nat → Nat → Int64} {Q : Option Value → zG → Prop} {o0 : Option Value} {o1 : Option Value} {s1 : UInt32} (hs1 : s1.toNat < 12)  (k : E x F d 50 0 [some (.ref 45), some (.float s1), none] [] (V, T) (fun r G' => E x F (d + 1) 48 68 [o0, o1] (r.toList ++ []) G' Q)) : E x F (d + 1) 48 65 [o0, o1] [.float s1, .ref 45] (V, T) Q := by
  exact e_callV zd48_65 (own := 5) (nest := false) (w := 498) (by decide +kernel) (by decide +kernel) zs50 (as := [.float s1]) (rest := []) rfl rfl (zsh_at hF rfl).1 (by omega) (Nat.le_of_ble_eq_true rfl) rfl rfl rfl (by omega) k
theorem b48_68 {x : zXs} {F : zF} (hF : zSh F) {d : Nat} {V : Nat → Nat → Int32} {T : Nat → Nat → Int64} {Q : Option Value → zG → Prop} {o0 : Option Value} {o1 : Option Value} {s0 : Int32}   (kt : s0 = 0 → E x F d 48 96 [o0, o1] [] (V, T) Q) (kf : ¬ (s0 = 0) → E x F d 48 71 [o0, o1] [] (V, T) Q) : E x F d 48 68 [o0, o1] [.int s0] (V, T) Q := by
  exact e_if_eq zd48_68 (tg := 96) rfl kt kf
theorem b48_71 {x : zXs} {F : zF} (hF : zSh F) {d : Nat} {V : Nat → Nat → Int32} {T : Nat → Nat → Int64} {Q : Option Value → zG → Prop} {l1 : Int32}   (kt : (Int32.ofInt 6) ≤ l1 → E x F d 48 82 [some (.ref 45), some (.int l1)] [.ref 45] (V, T) Q) (kf : ¬ ((Int32.ofInt 6) ≤ l1) → E x F d 48 78 [some (.ref 45), some (.int l1)] [.ref 45] (V, T) Q) : E x F d 48 71 [some (.ref 45), some (.int l1)] [] (V, T) Q := by
  refine e_aload_n zd48_71 rfl rfl ?_
  refine e_iload_n zd48_72 rfl ?_
  refine e_bipush zd48_73 (v := Int32.ofInt 6) (by decide +kernel) ?_
  exact e_icmp_ge zd48_75 (tg := 82) rfl kt kf
theorem b48_78 {x : zXs} {F : zF} (hF : zSh F) {d : Nat} {V : Nat → Nat → Int32} {T : Nat → Nat → Int64} {Q : Option Value → zG → Prop} {o0 : Option Value} {o1 : Option Value}   (k : E x F d 48 88 [o0, o1] [.int (Int32.ofInt 3), .ref 45] (V, T) Q) : E x F d 48 78 [o0, o1] [.ref 45] (V, T) Q := by
  refine e_iconst zd48_78 ?_
  exact e_goto zd48_79 (tg := 88) rfl k
theorem b48_82 {x : zXs} {F : zF} (hF : zSh F) {d : Nat} {V : Nat → Nat → Int32} {T : Nat → Nat → Int64} {Q : Option Value → zG → Prop} {o0 : Option Value} {l1 : Int32}   (k : E x F d 48 88 [o0, some (.int l1)] [.int (((Int32.ofInt 4) + l1) - (Int32.ofInt 6)), .ref 45] (V, T) Q) : E x F d 48 82 [o0, some (.int l1)] [.ref 45] (V, T) Q := by
  refine e_iconst zd48_82 ?_
  refine e_iload_n zd48_83 rfl ?_
  refine e_iadd zd48_84 ?_
  refine e_bipush zd48_85 (v := Int32.ofInt 6) (by decide +kernel) ?_
  refine e_isub zd48_87 ?_
  exact k
theorem b48_88 {x : zXs} {F : zF} (hF : zSh F) {d : Nat} {V : Nat → Nat → Int32} {T : Nat → Nat → Int64} {Q : Option Value → zG → Prop} {l1 : Int32} {s1 : Int32}   (k : E x F d 48 96 [some (.ref 45), some (.int l1)] [] (zu (zu V 45 3 s1) 45 4 l1, T) Q) : E x F d 48 88 [some (.ref 45), some (.int l1)] [.int s1, .ref 45] (V, T) Q := by
  refine e_putI zd48_88 (own := 5) (ci := 5) (kf := 3) (w := 252) (by decide +kernel) (by decide +kernel) (zsh_at hF rfl).1 (by decide +kernel) rfl ?_
  refine e_aload_n zd48_91 rfl rfl ?_
  refine e_iload_n zd48_92 rfl ?_
  refine e_putI zd48_93 (own := 5) (ci := 5) (kf := 4) (w := 253) (by decide +kernel) (by decide +kernel) (zsh_at hF rfl).1 (by decide +kernel) rfl ?_
  exact k
theorem b48_96 {x : zXs} {F : zF} (hF : zSh F) {d : Nat} {V : Nat → Nat → Int32} {T : Nat → Nat → Int64} {Q : Option Value → zG → Prop} {o0 : Option Value} {l1 : Int32}   (k : E x F d 48 54 [o0, some (.int (l1 + Int32.ofInt 1))] [] (V, T) Q) : E x F d 48 96 [o0, some (.int l1)] [] (V, T) Q := by
  refine e_iinc zd48_96 rfl (by decide +kernel) ?_
  exact e_goto zd48_99 (tg := 54) rfl k
theorem b48_102 {x : zXs} {F : zF} (hF : zSh F) {d : Nat} {V : Nat → Nat → Int32} {T : Nat → Nat → Int64} {Q : Option Value → zG → Prop} {o0 : Option Value} {o1 : Option Value}   (k : Q none (V, T)) : E x F d 48 102 [o0, o1] [] (V, T) Q := by
  exact e_vret zd48_102 zs48 k
theorem zd49_0 : zop 49 0 = some (.iload_n 0, 1) := by decide +kernel
theorem zd49_1 : zop 49 1 = some (.tableswitch 92 0 10 #[59, 62, 65, 68, 71, 74, 77, 80, 83, 86, 89], 59) := by decide +kernel
theorem zd49_60 : zop 49 60 = some (.ldc 119, 2) := by decide +kernel
theorem zd49_62 : zop 49 62 = some (.areturn, 1) := by decide +kernel
theorem zd49_63 : zop 49 63 = some (.ldc 121, 2) := by decide +kernel
theorem zd49_65 : zop 49 65 = some (.areturn, 1) := by decide +kernel
theorem zd49_66 : zop 49 66 = some (.ldc 123, 2) := by decide +kernel
theorem zd49_68 : zop 49 68 = some (.areturn, 1) := by decide +kernel
theorem zd49_69 : zop 49 69 = some (.ldc 125, 2) := by decide +kernel
theorem zd49_71 : zop 49 71 = some (.areturn, 1) := by decide +kernel
theorem zd49_72 : zop 49 72 = some (.ldc 127, 2) := by decide +kernel
theorem zd49_74 : zop 49 74 = some (.areturn, 1) := by decide +kernel
theorem zd49_75 : zop 49 75 = some (.ldc 129, 2) := by decide +kernel
theorem zd49_77 : zop 49 77 = some (.areturn, 1) := by decide +kernel
theorem zd49_78 : zop 49 78 = some (.ldc 131, 2) := by decide +kernel
theorem zd49_80 : zop 49 80 = some (.areturn, 1) := by decide +kernel
theorem zd49_81 : zop 49 81 = some (.ldc 133, 2) := by decide +kernel
theorem zd49_83 : zop 49 83 = some (.areturn, 1) := by decide +kernel
theorem zd49_84 : zop 49 84 = some (.ldc 135, 2) := by decide +kernel
theorem zd49_86 : zop 49 86 = some (.areturn, 1) := by decide +kernel
theorem zd49_87 : zop 49 87 = some (.ldc 137, 2) := by decide +kernel
theorem zd49_89 : zop 49 89 = some (.areturn, 1) := by decide +kernel
theorem zd49_90 : zop 49 90 = some (.ldc 139, 2) := by decide +kernel
theorem zd49_92 : zop 49 92 = some (.areturn, 1) := by decide +kernel
theorem zd49_93 : zop 49 93 = some (.ldc 141, 2) := by decide +kernel
theorem zd49_95 : zop 49 95 = some (.areturn, 1) := by decide +kernel
theorem b49_0 {x : zXs} {F : zF} (hF : zSh F) {d : Nat} {V : Nat → Nat → Int32} {T : Nat → Nat → Int64} {Q : Option Value → zG → Prop} {l0 : Int32}   (k0 : l0 = Int32.ofInt 0 → E x F d 49 60 [some (.int l0)] [] (V, T) Q) (k1 : l0 = Int32.ofInt 1 → E x F d 49 63 [some (.int l0)] [] (V, T) Q) (k2 : l0 = Int32.ofInt 2 → E x F d 49 66 [some (.int l0)] [] (V, T) Q) (k3 : l0 = Int32.ofInt 3 → E x F d 49 69 [some (.int l0)] [] (V, T) Q) (k4 : l0 = Int32.ofInt 4 → E x F d 49 72 [some (.int l0)] [] (V, T) Q) (k5 : l0 = Int32.ofInt 5 → E x F d 49 75 [some (.int l0)] [] (V, T) Q) (k6 : l0 = Int32.ofInt 6 → E x F d 49 78 [some (.int l0)] [] (V, T) Q) (k7 : l0 = Int32.ofInt 7 → E x F d 49 81 [some (.int l0)] [] (V, T) Q) (k8 : l0 = Int32.ofInt 8 → E x F d 49 84 [some (.int l0)] [] (V, T) Q) (k9 : l0 = Int32.ofInt 9 → E x F d 49 87 [some (.int l0)] [] (V, T) Q) (k10 : l0 = Int32.ofInt 10 → E x F d 49 90 [some (.int l0)] [] (V, T) Q) (kd : ¬ l0 = Int32.ofInt 0 ∧ ¬ l0 = Int32.ofInt 1 ∧ ¬ l0 = Int32.ofInt 2 ∧ ¬ l0 = Int32.ofInt 3 ∧ ¬ l0 = Int32.ofInt 4 ∧ ¬ l0 = Int32.ofInt 5 ∧ ¬ l0 = Int32.ofInt 6 ∧ ¬ l0 = Int32.ofInt 7 ∧ ¬ l0 = Int32.ofInt 8 ∧ ¬ l0 = Int32.ofInt 9 ∧ ¬ l0 = Int32.ofInt 10 → E x F d 49 93 [some (.int l0)] [] (V, T) Q) : E x F d 49 0 [some (.int l0)] [] (V, T) Q := by
  refine e_iload_n zd49_0 rfl ?_
  by_cases c0 : l0 = Int32.ofInt 0
  · exact e_tableIn zd49_1 (off := 59) (by rw [c0]; decide +kernel) (by rw [c0]; decide +kernel) (tg := 60) rfl (k0 c0)
  by_cases c1 : l0 = Int32.ofInt 1
  · exact e_tableIn zd49_1 (off := 62) (by rw [c1]; decide +kernel) (by rw [c1]; decide +kernel) (tg := 63) rfl (k1 c1)
  by_cases c2 : l0 = Int32.ofInt 2
  · exact e_tableIn zd49_1 (off := 65) (by rw [c2]; decide +kernel) (by rw [c2]; decide +kernel) (tg := 66) rfl (k2 c2)
  by_cases c3 : l0 = Int32.ofInt 3
  · exact e_tableIn zd49_1 (off := 68) (by rw [c3]; decide +kernel) (by rw [c3]; decide +kernel) (tg := 69) rfl (k3 c3)
  by_cases c4 : l0 = Int32.ofInt 4
  · exact e_tableIn zd49_1 (off := 71) (by rw [c4]; decide +kernel) (by rw [c4]; decide +kernel) (tg := 72) rfl (k4 c4)
  by_cases c5 : l0 = Int32.ofInt 5
  · exact e_tableIn zd49_1 (off := 74) (by rw [c5]; decide +kernel) (by rw [c5]; decide +kernel) (tg := 75) rfl (k5 c5)
  by_cases c6 : l0 = Int32.ofInt 6
  · exact e_tableIn zd49_1 (off := 77) (by rw [c6]; decide +kernel) (by rw [c6]; decide +kernel) (tg := 78) rfl (k6 c6)
  by_cases c7 : l0 = Int32.ofInt 7
  · exact e_tableIn zd49_1 (off := 80) (by rw [c7]; decide +kernel) (by rw [c7]; decide +kernel) (tg := 81) rfl (k7 c7)
  by_cases c8 : l0 = Int32.ofInt 8
  · exact e_tableIn zd49_1 (off := 83) (by rw [c8]; decide +kernel) (by rw [c8]; decide +kernel) (tg := 84) rfl (k8 c8)
  by_cases c9 : l0 = Int32.ofInt 9
  · exact e_tableIn zd49_1 (off := 86) (by rw [c9]; decide +kernel) (by rw [c9]; decide +kernel) (tg := 87) rfl (k9 c9)
  by_cases c10 : l0 = Int32.ofInt 10
  · exact e_tableIn zd49_1 (off := 89) (by rw [c10]; decide +kernel) (by rw [c10]; decide +kernel) (tg := 90) rfl (k10 c10)
  exact e_tableOut zd49_1 (zsw_out (lo := 0) (hi := 10) (by decide) (by decide) (fun v h1 h2 h => by
    rcases (show v = 0 ∨ v = 1 ∨ v = 2 ∨ v = 3 ∨ v = 4 ∨ v = 5 ∨ v = 6 ∨ v = 7 ∨ v = 8 ∨ v = 9 ∨ v = 10 by omega) with rfl | rfl | rfl | rfl | rfl | rfl | rfl | rfl | rfl | rfl | rfl
    · exact c0 h
    · exact c1 h
    · exact c2 h
    · exact c3 h
    · exact c4 h
    · exact c5 h
    · exact c6 h
    · exact c7 h
    · exact c8 h
    · exact c9 h
    · exact c10 h)) (tg := 93) rfl (kd ⟨c0, c1, c2, c3, c4, c5, c6, c7, c8, c9, c10⟩)
theorem b49_60 {x : zXs} {F : zF} (hF : zSh F) {d : Nat} {V : Nat → Nat → Int32} {T : Nat → Nat → Int64} {Q : Option Value → zG → Prop} {o0 : Option Value}   (k : Q (some (.float (UInt32.ofNat 0))) (V, T)) : E x F d 49 60 [o0] [] (V, T) Q := by
  refine e_ldcs zd49_60 (own := 5) (kk := 0) (by decide +kernel) (by decide +kernel) (by decide +kernel) ?_
  exact e_aret zd49_62 zs49 rfl k
theorem b49_63 {x : zXs} {F : zF} (hF : zSh F) {d : Nat} {V : Nat → Nat → Int32} {T : Nat → Nat → Int64} {Q : Option Value → zG → Prop} {o0 : Option Value}   (k : Q (some (.float (UInt32.ofNat 1))) (V, T)) : E x F d 49 63 [o0] [] (V, T) Q := by
  refine e_ldcs zd49_63 (own := 5) (kk := 1) (by decide +kernel) (by decide +kernel) (by decide +kernel) ?_
  exact e_aret zd49_65 zs49 rfl k
theorem b49_66 {x : zXs} {F : zF} (hF : zSh F) {d : Nat} {V : Nat → Nat → Int32} {T : Nat → Nat → Int64} {Q : Option Value → zG → Prop} {o0 : Option Value}   (k : Q (some (.float (UInt32.ofNat 2))) (V, T)) : E x F d 49 66 [o0] [] (V, T) Q := by
  refine e_ldcs zd49_66 (own := 5) (kk := 2) (by decide +kernel) (by decide +kernel) (by decide +kernel) ?_
  exact e_aret zd49_68 zs49 rfl k
theorem b49_69 {x : zXs} {F : zF} (hF : zSh F) {d : Nat} {V : Nat → Nat → Int32} {T : Nat → Nat → Int64} {Q : Option Value → zG → Prop} {o0 : Option Value}   (k : Q (some (.float (UInt32.ofNat 3))) (V, T)) : E x F d 49 69 [o0] [] (V, T) Q := by
  refine e_ldcs zd49_69 (own := 5) (kk := 3) (by decide +kernel) (by decide +kernel) (by decide +kernel) ?_
  exact e_aret zd49_71 zs49 rfl k
theorem b49_72 {x : zXs} {F : zF} (hF : zSh F) {d : Nat} {V : Nat → Nat → Int32} {T : Nat → Nat → Int64} {Q : Option Value → zG → Prop} {o0 : Option Value}   (k : Q (some (.float (UInt32.ofNat 4))) (V, T)) : E x F d 49 72 [o0] [] (V, T) Q := by
  refine e_ldcs zd49_72 (own := 5) (kk := 4) (by decide +kernel) (by decide +kernel) (by decide +kernel) ?_
  exact e_aret zd49_74 zs49 rfl k
theorem b49_75 {x : zXs} {F : zF} (hF : zSh F) {d : Nat} {V : Nat → Nat → Int32} {T : Nat → Nat → Int64} {Q : Option Value → zG → Prop} {o0 : Option Value}   (k : Q (some (.float (UInt32.ofNat 5))) (V, T)) : E x F d 49 75 [o0] [] (V, T) Q := by
  refine e_ldcs zd49_75 (own := 5) (kk := 5) (by decide +kernel) (by decide +kernel) (by decide +kernel) ?_
  exact e_aret zd49_77 zs49 rfl k
theorem b49_78 {x : zXs} {F : zF} (hF : zSh F) {d : Nat} {V : Nat → Nat → Int32} {T : Nat → Nat → Int64} {Q : Option Value → zG → Prop} {o0 : Option Value}   (k : Q (some (.float (UInt32.ofNat 6))) (V, T)) : E x F d 49 78 [o0] [] (V, T) Q := by
  refine e_ldcs zd49_78 (own := 5) (kk := 6) (by decide +kernel) (by decide +kernel) (by decide +kernel) ?_
  exact e_aret zd49_80 zs49 rfl k
theorem b49_81 {x : zXs} {F : zF} (hF : zSh F) {d : Nat} {V : Nat → Nat → Int32} {T : Nat → Nat → Int64} {Q : Option Value → zG → Prop} {o0 : Option Value}   (k : Q (some (.float (UInt32.ofNat 7))) (V, T)) : E x F d 49 81 [o0] [] (V, T) Q := by
  refine e_ldcs zd49_81 (own := 5) (kk := 7) (by decide +kernel) (by decide +kernel) (by decide +kernel) ?_
  exact e_aret zd49_83 zs49 rfl k
theorem b49_84 {x : zXs} {F : zF} (hF : zSh F) {d : Nat} {V : Nat → Nat → Int32} {T : Nat → Nat → Int64} {Q : Option Value → zG → Prop} {o0 : Option Value}   (k : Q (some (.float (UInt32.ofNat 8))) (V, T)) : E x F d 49 84 [o0] [] (V, T) Q := by
  refine e_ldcs zd49_84 (own := 5) (kk := 8) (by decide +kernel) (by decide +kernel) (by decide +kernel) ?_
  exact e_aret zd49_86 zs49 rfl k
theorem b49_87 {x : zXs} {F : zF} (hF : zSh F) {d : Nat} {V : Nat → Nat → Int32} {T : Nat → Nat → Int64} {Q : Option Value → zG → Prop} {o0 : Option Value}   (k : Q (some (.float (UInt32.ofNat 9))) (V, T)) : E x F d 49 87 [o0] [] (V, T) Q := by
  refine e_ldcs zd49_87 (own := 5) (kk := 9) (by decide +kernel) (by decide +kernel) (by decide +kernel) ?_
  exact e_aret zd49_89 zs49 rfl k
theorem b49_90 {x : zXs} {F : zF} (hF : zSh F) {d : Nat} {V : Nat → Nat → Int32} {T : Nat → Nat → Int64} {Q : Option Value → zG → Prop} {o0 : Option Value}   (k : Q (some (.float (UInt32.ofNat 10))) (V, T)) : E x F d 49 90 [o0] [] (V, T) Q := by
  refine e_ldcs zd49_90 (own := 5) (kk := 10) (by decide +kernel) (by decide +kernel) (by decide +kernel) ?_
  exact e_aret zd49_92 zs49 rfl k
theorem b49_93 {x : zXs} {F : zF} (hF : zSh F) {d : Nat} {V : Nat → Nat → Int32} {T : Nat → Nat → Int64} {Q : Option Value → zG → Prop} {o0 : Option Value}   (k : Q (some (.float (UInt32.ofNat 11))) (V, T)) : E x F d 49 93 [o0] [] (V, T) Q := by
  refine e_ldcs zd49_93 (own := 5) (kk := 11) (by decide +kernel) (by decide +kernel) (by decide +kernel) ?_
  exact e_aret zd49_95 zs49 rfl k
theorem zd50_0 : zop 50 0 = some (.aload_n 1, 1) := by decide +kernel
theorem zd50_1 : zop 50 1 = some (.invokevirtual 109, 3) := by decide +kernel
theorem zd50_4 : zop 50 4 = some (.aload_n 0, 1) := by decide +kernel
theorem zd50_5 : zop 50 5 = some (.getfield 35, 3) := by decide +kernel
theorem zd50_8 : zop 50 8 = some (.aload_n 0, 1) := by decide +kernel
theorem zd50_9 : zop 50 9 = some (.getfield 82, 3) := by decide +kernel
theorem zd50_12 : zop 50 12 = some (.isub, 1) := by decide +kernel
theorem zd50_13 : zop 50 13 = some (.if_icmp .eq 5, 3) := by decide +kernel
theorem zd50_16 : zop 50 16 = some (.iconst 0, 1) := by decide +kernel
theorem zd50_17 : zop 50 17 = some (.ireturn, 1) := by decide +kernel
theorem zd50_18 : zop 50 18 = some (.iconst 0, 1) := by decide +kernel
theorem zd50_19 : zop 50 19 = some (.istore_n 2, 1) := by decide +kernel
theorem zd50_20 : zop 50 20 = some (.iload_n 2, 1) := by decide +kernel
theorem zd50_21 : zop 50 21 = some (.aload_n 1, 1) := by decide +kernel
theorem zd50_22 : zop 50 22 = some (.invokevirtual 109, 3) := by decide +kernel
theorem zd50_25 : zop 50 25 = some (.if_icmp .ge 43, 3) := by decide +kernel
theorem zd50_28 : zop 50 28 = some (.aload_n 0, 1) := by decide +kernel
theorem zd50_29 : zop 50 29 = some (.getfield 82, 3) := by decide +kernel
theorem zd50_32 : zop 50 32 = some (.iload_n 2, 1) := by decide +kernel
theorem zd50_33 : zop 50 33 = some (.iadd, 1) := by decide +kernel
theorem zd50_34 : zop 50 34 = some (.aload_n 0, 1) := by decide +kernel
theorem zd50_35 : zop 50 35 = some (.getfield 22, 3) := by decide +kernel
theorem zd50_38 : zop 50 38 = some (.if_icmp .ge 30, 3) := by decide +kernel
theorem zd50_41 : zop 50 41 = some (.aload_n 0, 1) := by decide +kernel
theorem zd50_42 : zop 50 42 = some (.getfield 9, 3) := by decide +kernel
theorem zd50_45 : zop 50 45 = some (.aload_n 0, 1) := by decide +kernel
theorem zd50_46 : zop 50 46 = some (.getfield 82, 3) := by decide +kernel
theorem zd50_49 : zop 50 49 = some (.iload_n 2, 1) := by decide +kernel
theorem zd50_50 : zop 50 50 = some (.iadd, 1) := by decide +kernel
theorem zd50_51 : zop 50 51 = some (.iaload, 1) := by decide +kernel
theorem zd50_52 : zop 50 52 = some (.aload_n 1, 1) := by decide +kernel
theorem zd50_53 : zop 50 53 = some (.iload_n 2, 1) := by decide +kernel
theorem zd50_54 : zop 50 54 = some (.invokevirtual 115, 3) := by decide +kernel
theorem zd50_57 : zop 50 57 = some (.if_icmp .eq 5, 3) := by decide +kernel
theorem zd50_60 : zop 50 60 = some (.iconst 0, 1) := by decide +kernel
theorem zd50_61 : zop 50 61 = some (.ireturn, 1) := by decide +kernel
theorem zd50_62 : zop 50 62 = some (.iinc 2 1, 3) := by decide +kernel
theorem zd50_65 : zop 50 65 = some (.goto (-45), 3) := by decide +kernel
theorem zd50_68 : zop 50 68 = some (.iconst 1, 1) := by decide +kernel
theorem zd50_69 : zop 50 69 = some (.ireturn, 1) := by decide +kernel
theorem b50_0 {x : zXs} {F : zF} (hF : zSh F) {d : Nat} {V : Nat → Nat → Int32} {T : Nat → Nat → Int64} {Q : Option Value → zG → Prop} {o0 : Option Value} {l1 : UInt32} {o2 : Option Value} (hl1 : l1.toNat < 12)  (k : E x F d 51 0 [some (.float l1)] [] (V, T) (fun r G' => E x F (d + 1) 50 4 [o0, some (.float l1), o2] (r.toList ++ []) G' Q)) : E x F (d + 1) 50 0 [o0, some (.float l1), o2] [] (V, T) Q := by
  refine e_aload_n zd50_0 rfl rfl ?_
  exact e_callX zd50_1 (own := 5) (nest := false) (w := 502) (by decide +kernel) (by decide +kernel) zs51 (as := []) (rest := []) rfl rfl hl1 (Nat.le_of_ble_eq_true rfl) rfl rfl rfl (by omega) k
theorem b50_4 {x : zXs} {F : zF} (hF : zSh F) {d : Nat} {V : Nat → Nat → Int32} {T : Nat → Nat → Int64} {Q : Option Value → zG → Prop} {o1 : Option Value} {o2 : Option Value} {s0 : Int32}   (kt : s0 = ((V 45 6) - (V 45 5)) → E x F d 50 18 [some (.ref 45), o1, o2] [] (V, T) Q) (kf : ¬ (s0 = ((V 45 6) - (V 45 5))) → E x F d 50 16 [some (.ref 45), o1, o2] [] (V, T) Q) : E x F d 50 4 [some (.ref 45), o1, o2] [.int s0] (V, T) Q := by
  refine e_aload_n zd50_4 rfl rfl ?_
  refine e_getI zd50_5 (own := 5) (ci := 5) (kf := 6) (w := 255) (by decide +kernel) (by decide +kernel) (zsh_at hF rfl).1 (by decide +kernel) rfl ?_
  refine e_aload_n zd50_8 rfl rfl ?_
  refine e_getI zd50_9 (own := 5) (ci := 5) (kf := 5) (w := 254) (by decide +kernel) (by decide +kernel) (zsh_at hF rfl).1 (by decide +kernel) rfl ?_
  refine e_isub zd50_12 ?_
  exact e_icmp_eq zd50_13 (tg := 18) rfl kt kf
theorem b50_16 {x : zXs} {F : zF} (hF : zSh F) {d : Nat} {V : Nat → Nat → Int32} {T : Nat → Nat → Int64} {Q : Option Value → zG → Prop} {o0 : Option Value} {o1 : Option Value} {o2 : Option Value}   (k : Q (some (.int (Int32.ofInt 0))) (V, T)) : E x F d 50 16 [o0, o1, o2] [] (V, T) Q := by
  refine e_iconst zd50_16 ?_
  exact e_iretz zd50_17 zs50 (by decide +kernel) k
theorem b50_18 {x : zXs} {F : zF} (hF : zSh F) {d : Nat} {V : Nat → Nat → Int32} {T : Nat → Nat → Int64} {Q : Option Value → zG → Prop} {o0 : Option Value} {o1 : Option Value} {o2 : Option Value}   (k : E x F d 50 20 [o0, o1, some (.int (Int32.ofInt 0))] [] (V, T) Q) : E x F d 50 18 [o0, o1, o2] [] (V, T) Q := by
  refine e_iconst zd50_18 ?_
  refine e_istore_n zd50_19 (by decide +kernel) (Nat.le_of_ble_eq_true rfl) ?_
  exact k
theorem b50_20 {x : zXs} {F : zF} (hF : zSh F) {d : Nat} {V : Nat → Nat → Int32} {T : Nat → Nat → Int64} {Q : Option Value → zG → Prop} {o0 : Option Value} {l1 : UInt32} {l2 : Int32} (hl1 : l1.toNat < 12)  (k : E x F d 51 0 [some (.float l1)] [] (V, T) (fun r G' => E x F (d + 1) 50 25 [o0, some (.float l1), some (.int l2)] (r.toList ++ [.int l2]) G' Q)) : E x F (d + 1) 50 20 [o0, some (.float l1), some (.int l2)] [] (V, T) Q := by
  refine e_iload_n zd50_20 rfl ?_
  refine e_aload_n zd50_21 rfl rfl ?_
  exact e_callX zd50_22 (own := 5) (nest := false) (w := 502) (by decide +kernel) (by decide +kernel) zs51 (as := []) (rest := [.int l2]) rfl rfl hl1 (Nat.le_of_ble_eq_true rfl) rfl rfl rfl (by omega) k
theorem b50_25 {x : zXs} {F : zF} (hF : zSh F) {d : Nat} {V : Nat → Nat → Int32} {T : Nat → Nat → Int64} {Q : Option Value → zG → Prop} {o0 : Option Value} {o1 : Option Value} {o2 : Option Value} {s0 : Int32} {s1 : Int32}   (kt : s1 ≤ s0 → E x F d 50 68 [o0, o1, o2] [] (V, T) Q) (kf : ¬ (s1 ≤ s0) → E x F d 50 28 [o0, o1, o2] [] (V, T) Q) : E x F d 50 25 [o0, o1, o2] [.int s1, .int s0] (V, T) Q := by
  exact e_icmp_ge zd50_25 (tg := 68) rfl kt kf
theorem b50_28 {x : zXs} {F : zF} (hF : zSh F) {d : Nat} {V : Nat → Nat → Int32} {T : Nat → Nat → Int64} {Q : Option Value → zG → Prop} {o1 : Option Value} {l2 : Int32}   (kt : (V 45 1) ≤ ((V 45 5) + l2) → E x F d 50 68 [some (.ref 45), o1, some (.int l2)] [] (V, T) Q) (kf : ¬ ((V 45 1) ≤ ((V 45 5) + l2)) → E x F d 50 41 [some (.ref 45), o1, some (.int l2)] [] (V, T) Q) : E x F d 50 28 [some (.ref 45), o1, some (.int l2)] [] (V, T) Q := by
  refine e_aload_n zd50_28 rfl rfl ?_
  refine e_getI zd50_29 (own := 5) (ci := 5) (kf := 5) (w := 254) (by decide +kernel) (by decide +kernel) (zsh_at hF rfl).1 (by decide +kernel) rfl ?_
  refine e_iload_n zd50_32 rfl ?_
  refine e_iadd zd50_33 ?_
  refine e_aload_n zd50_34 rfl rfl ?_
  refine e_getI zd50_35 (own := 5) (ci := 5) (kf := 1) (w := 248) (by decide +kernel) (by decide +kernel) (zsh_at hF rfl).1 (by decide +kernel) rfl ?_
  exact e_icmp_ge zd50_38 (tg := 68) rfl kt kf
theorem b50_41 {x : zXs} {F : zF} (hF : zSh F) {d : Nat} {V : Nat → Nat → Int32} {T : Nat → Nat → Int64} {Q : Option Value → zG → Prop} {l1 : UInt32} {l2 : Int32} (hl1 : l1.toNat < 12) {i1 : Nat} (e1 : (V 45 5) + l2 = nI i1) (h1 : i1 < 160) (k : E x F d 53 0 [some (.float l1), some (.int l2)] [] (V, T) (fun r G' => E x F (d + 1) 50 57 [some (.ref 45), some (.float l1), some (.int l2)] (r.toList ++ [.int (V 46 i1)]) G' Q)) : E x F (d + 1) 50 41 [some (.ref 45), some (.float l1), some (.int l2)] [] (V, T) Q := by
  refine e_aload_n zd50_41 rfl rfl ?_
  refine e_getA zd50_42 (own := 5) (ci := 5) (kf := 0) (w := 247) (by decide +kernel) (by decide +kernel) (zsh_at hF rfl).1 (by decide +kernel) rfl (zrf_at hF (i := 47) rfl) ?_
  refine e_aload_n zd50_45 rfl rfl ?_
  refine e_getI zd50_46 (own := 5) (ci := 5) (kf := 5) (w := 254) (by decide +kernel) (by decide +kernel) (zsh_at hF rfl).1 (by decide +kernel) rfl ?_
  refine e_iload_n zd50_49 rfl ?_
  refine e_iadd zd50_50 ?_
  refine e_iald zd50_51 (i := i1) (zsh_at hF rfl) e1 h1 (by omega) ?_
  refine e_aload_n zd50_52 rfl rfl ?_
  refine e_iload_n zd50_53 rfl ?_
  exact e_callX zd50_54 (own := 5) (nest := false) (w := 512) (by decide +kernel) (by decide +kernel) zs53 (as := [.int l2]) (rest := [.int (V 46 i1)]) rfl rfl hl1 (Nat.le_of_ble_eq_true rfl) rfl rfl rfl (by omega) k
theorem b50_57 {x : zXs} {F : zF} (hF : zSh F) {d : Nat} {V : Nat → Nat → Int32} {T : Nat → Nat → Int64} {Q : Option Value → zG → Prop} {o0 : Option Value} {o1 : Option Value} {o2 : Option Value} {s0 : Int32} {s1 : Int32}   (kt : s0 = s1 → E x F d 50 62 [o0, o1, o2] [] (V, T) Q) (kf : ¬ (s0 = s1) → E x F d 50 60 [o0, o1, o2] [] (V, T) Q) : E x F d 50 57 [o0, o1, o2] [.int s1, .int s0] (V, T) Q := by
  exact e_icmp_eq zd50_57 (tg := 62) rfl kt kf
theorem b50_60 {x : zXs} {F : zF} (hF : zSh F) {d : Nat} {V : Nat → Nat → Int32} {T : Nat → Nat → Int64} {Q : Option Value → zG → Prop} {o0 : Option Value} {o1 : Option Value} {o2 : Option Value}   (k : Q (some (.int (Int32.ofInt 0))) (V, T)) : E x F d 50 60 [o0, o1, o2] [] (V, T) Q := by
  refine e_iconst zd50_60 ?_
  exact e_iretz zd50_61 zs50 (by decide +kernel) k
theorem b50_62 {x : zXs} {F : zF} (hF : zSh F) {d : Nat} {V : Nat → Nat → Int32} {T : Nat → Nat → Int64} {Q : Option Value → zG → Prop} {o0 : Option Value} {o1 : Option Value} {l2 : Int32}   (k : E x F d 50 20 [o0, o1, some (.int (l2 + Int32.ofInt 1))] [] (V, T) Q) : E x F d 50 62 [o0, o1, some (.int l2)] [] (V, T) Q := by
  refine e_iinc zd50_62 rfl (by decide +kernel) ?_
  exact e_goto zd50_65 (tg := 20) rfl k
theorem b50_68 {x : zXs} {F : zF} (hF : zSh F) {d : Nat} {V : Nat → Nat → Int32} {T : Nat → Nat → Int64} {Q : Option Value → zG → Prop} {o0 : Option Value} {o1 : Option Value} {o2 : Option Value}   (k : Q (some (.int (Int32.ofInt 1))) (V, T)) : E x F d 50 68 [o0, o1, o2] [] (V, T) Q := by
  refine e_iconst zd50_68 ?_
  exact e_iretz zd50_69 zs50 (by decide +kernel) k
theorem zd51_0 : zop 51 0 = some (.aload_n 0, 1) := by decide +kernel
theorem zd51_1 : zop 51 1 = some (.getfield 9, 3) := by decide +kernel
theorem zd51_4 : zop 51 4 = some (.arraylength, 1) := by decide +kernel
theorem zd51_5 : zop 51 5 = some (.aload_n 0, 1) := by decide +kernel
theorem zd51_6 : zop 51 6 = some (.invokevirtual 335, 3) := by decide +kernel
theorem zd51_9 : zop 51 9 = some (.ishr, 1) := by decide +kernel
theorem zd51_10 : zop 51 10 = some (.ireturn, 1) := by decide +kernel
theorem b51_0 {x : zXs} {F : zF} (hF : zSh F) {d : Nat} {V : Nat → Nat → Int32} {T : Nat → Nat → Int64} {Q : Option Value → zG → Prop} {l0 : UInt32} (hl0 : l0.toNat < 12) {y1 : Bool} {n1 : Nat} {f1 : Nat → Int32} (x1 : zxt x (UInt64.ofNat (1 + l0.toNat)).toNat = some (y1, n1, f1)) (k : E x F d 52 0 [some (.float l0)] [] (V, T) (fun r G' => E x F (d + 1) 51 9 [some (.float l0)] (r.toList ++ [.int (nI n1)]) G' Q)) : E x F (d + 1) 51 0 [some (.float l0)] [] (V, T) Q := by
  refine e_aload_n zd51_0 rfl rfl ?_
  refine e_getjv zd51_1 (own := 11) (w := 1339) (by decide +kernel) (by decide +kernel) (by decide +kernel) hl0 ?_
  refine e_alenX zd51_4 x1 ?_
  refine e_aload_n zd51_5 rfl rfl ?_
  exact e_callX zd51_6 (own := 11) (nest := false) (w := 506) (by decide +kernel) (by decide +kernel) zs52 (as := []) (rest := [.int (nI n1)]) rfl rfl hl0 (Nat.le_of_ble_eq_true rfl) rfl rfl rfl (by omega) k
theorem b51_9 {x : zXs} {F : zF} (hF : zSh F) {d : Nat} {V : Nat → Nat → Int32} {T : Nat → Nat → Int64} {Q : Option Value → zG → Prop} {o0 : Option Value} {s0 : Int32} {s1 : Int32}   (k : Q (some (.int (s0 >>> (s1 &&& 31)))) (V, T)) : E x F d 51 9 [o0] [.int s1, .int s0] (V, T) Q := by
  refine e_ishr zd51_9 ?_
  exact e_ireti zd51_10 zs51 k
theorem zd52_0 : zop 52 0 = some (.getstatic 38, 3) := by decide +kernel
theorem zd52_3 : zop 52 3 = some (.ifCond .eq 10, 3) := by decide +kernel
theorem zd52_6 : zop 52 6 = some (.aload_n 0, 1) := by decide +kernel
theorem zd52_7 : zop 52 7 = some (.getfield 15, 3) := by decide +kernel
theorem zd52_10 : zop 52 10 = some (.goto 4, 3) := by decide +kernel
theorem zd52_13 : zop 52 13 = some (.iconst 1, 1) := by decide +kernel
theorem zd52_14 : zop 52 14 = some (.ireturn, 1) := by decide +kernel
theorem b52_0 {x : zXs} {F : zF} (hF : zSh F) {d : Nat} {V : Nat → Nat → Int32} {T : Nat → Nat → Int64} {Q : Option Value → zG → Prop} {o0 : Option Value}   (kt : (1 : Int32) = 0 → E x F d 52 13 [o0] [] (V, T) Q) (kf : ¬ ((1 : Int32) = 0) → E x F d 52 6 [o0] [] (V, T) Q) : E x F d 52 0 [o0] [] (V, T) Q := by
  refine e_gets zd52_0 (own := 11) (y := 0) (w := 510) (v := .int 1) (by decide +kernel) (by decide +kernel) rfl ?_
  exact e_if_eq zd52_3 (tg := 13) rfl kt kf
theorem b52_6 {x : zXs} {F : zF} (hF : zSh F) {d : Nat} {V : Nat → Nat → Int32} {T : Nat → Nat → Int64} {Q : Option Value → zG → Prop} {l0 : UInt32} (hl0 : l0.toNat < 12)  (k : E x F d 52 14 [some (.float l0)] [.int (0 : Int32)] (V, T) Q) : E x F d 52 6 [some (.float l0)] [] (V, T) Q := by
  refine e_aload_n zd52_6 rfl rfl ?_
  refine e_getjc zd52_7 (own := 11) (w := 1340) (by decide +kernel) (by decide +kernel) (by decide +kernel) hl0 ?_
  exact e_goto zd52_10 (tg := 14) rfl k
theorem b52_13 {x : zXs} {F : zF} (hF : zSh F) {d : Nat} {V : Nat → Nat → Int32} {T : Nat → Nat → Int64} {Q : Option Value → zG → Prop} {o0 : Option Value}   (k : E x F d 52 14 [o0] [.int (Int32.ofInt 1)] (V, T) Q) : E x F d 52 13 [o0] [] (V, T) Q := by
  refine e_iconst zd52_13 ?_
  exact k
theorem b52_14 {x : zXs} {F : zF} (hF : zSh F) {d : Nat} {V : Nat → Nat → Int32} {T : Nat → Nat → Int64} {Q : Option Value → zG → Prop} {o0 : Option Value} {s0 : Int32}  (b1 : narrow .byte (.int s0) = .int s0) (k : Q (some (.int s0)) (V, T)) : E x F d 52 14 [o0] [.int s0] (V, T) Q := by
  exact e_iretb zd52_14 zs52 b1 k
theorem zd53_0 : zop 53 0 = some (.aload_n 0, 1) := by decide +kernel
theorem zd53_1 : zop 53 1 = some (.invokevirtual 492, 3) := by decide +kernel
theorem zd53_4 : zop 53 4 = some (.ifCond .eq 12, 3) := by decide +kernel
theorem zd53_7 : zop 53 7 = some (.aload_n 0, 1) := by decide +kernel
theorem zd53_8 : zop 53 8 = some (.getfield 9, 3) := by decide +kernel
theorem zd53_11 : zop 53 11 = some (.iload_n 1, 1) := by decide +kernel
theorem zd53_12 : zop 53 12 = some (.invokestatic 495, 3) := by decide +kernel
theorem zd53_15 : zop 53 15 = some (.ireturn, 1) := by decide +kernel
theorem zd53_16 : zop 53 16 = some (.aload_n 0, 1) := by decide +kernel
theorem zd53_17 : zop 53 17 = some (.getfield 9, 3) := by decide +kernel
theorem zd53_20 : zop 53 20 = some (.iload_n 1, 1) := by decide +kernel
theorem b53_0 {x : zXs} {F : zF} (hF : zSh F) {d : Nat} {V : Nat → Nat → Int32} {T : Nat → Nat → Int64} {Q : Option Value → zG → Prop} {l0 : UInt32} {o1 : Option Value} (hl0 : l0.toNat < 12)  (k : E x F d 54 0 [some (.float l0)] [] (V, T) (fun r G' => E x F (d + 1) 53 4 [some (.float l0), o1] (r.toList ++ []) G' Q)) : E x F (d + 1) 53 0 [some (.float l0), o1] [] (V, T) Q := by
  refine e_aload_n zd53_0 rfl rfl ?_
  exact e_callX zd53_1 (own := 11) (nest := false) (w := 516) (by decide +kernel) (by decide +kernel) zs54 (as := []) (rest := []) rfl rfl hl0 (Nat.le_of_ble_eq_true rfl) rfl rfl rfl (by omega) k
theorem b53_4 {x : zXs} {F : zF} (hF : zSh F) {d : Nat} {V : Nat → Nat → Int32} {T : Nat → Nat → Int64} {Q : Option Value → zG → Prop} {o0 : Option Value} {o1 : Option Value} {s0 : Int32}   (kt : s0 = 0 → E x F d 53 16 [o0, o1] [] (V, T) Q) (kf : ¬ (s0 = 0) → E x F d 53 7 [o0, o1] [] (V, T) Q) : E x F d 53 4 [o0, o1] [.int s0] (V, T) Q := by
  exact e_if_eq zd53_4 (tg := 16) rfl kt kf
theorem b53_7 {x : zXs} {F : zF} (hF : zSh F) {d : Nat} {V : Nat → Nat → Int32} {T : Nat → Nat → Int64} {Q : Option Value → zG → Prop} {l0 : UInt32} {l1 : Int32} (hl0 : l0.toNat < 12)  (k : E x F d 55 0 [some (.double (UInt64.ofNat (1 + l0.toNat))), some (.int l1)] [] (V, T) (fun r G' => E x F (d + 1) 53 15 [some (.float l0), some (.int l1)] (r.toList ++ []) G' Q)) : E x F (d + 1) 53 7 [some (.float l0), some (.int l1)] [] (V, T) Q := by
  refine e_aload_n zd53_7 rfl rfl ?_
  refine e_getjv zd53_8 (own := 11) (w := 1339) (by decide +kernel) (by decide +kernel) (by decide +kernel) hl0 ?_
  refine e_iload_n zd53_11 rfl ?_
  exact e_callS zd53_12 (own := 11) (nest := false) (w := 520) (by decide +kernel) (by decide +kernel) zs55 (as := [.double (UInt64.ofNat (1 + l0.toNat)), .int l1]) (rest := []) rfl rfl (Nat.le_of_ble_eq_true rfl) rfl rfl rfl (by omega) k
theorem b53_15 {x : zXs} {F : zF} (hF : zSh F) {d : Nat} {V : Nat → Nat → Int32} {T : Nat → Nat → Int64} {Q : Option Value → zG → Prop} {o0 : Option Value} {o1 : Option Value} {s0 : Int32}  (b1 : narrow .char (.int s0) = .int s0) (k : Q (some (.int s0)) (V, T)) : E x F d 53 15 [o0, o1] [.int s0] (V, T) Q := by
  exact e_iretc zd53_15 zs53 b1 k
theorem zd54_0 : zop 54 0 = some (.getstatic 38, 3) := by decide +kernel
theorem zd54_3 : zop 54 3 = some (.ifCond .eq 14, 3) := by decide +kernel
theorem zd54_6 : zop 54 6 = some (.aload_n 0, 1) := by decide +kernel
theorem zd54_7 : zop 54 7 = some (.getfield 15, 3) := by decide +kernel
theorem zd54_10 : zop 54 10 = some (.ifCond .ne 7, 3) := by decide +kernel
theorem zd54_13 : zop 54 13 = some (.iconst 1, 1) := by decide +kernel
theorem zd54_14 : zop 54 14 = some (.goto 4, 3) := by decide +kernel
theorem zd54_17 : zop 54 17 = some (.iconst 0, 1) := by decide +kernel
theorem zd54_18 : zop 54 18 = some (.ireturn, 1) := by decide +kernel
theorem b54_0 {x : zXs} {F : zF} (hF : zSh F) {d : Nat} {V : Nat → Nat → Int32} {T : Nat → Nat → Int64} {Q : Option Value → zG → Prop} {o0 : Option Value}   (kt : (1 : Int32) = 0 → E x F d 54 17 [o0] [] (V, T) Q) (kf : ¬ ((1 : Int32) = 0) → E x F d 54 6 [o0] [] (V, T) Q) : E x F d 54 0 [o0] [] (V, T) Q := by
  refine e_gets zd54_0 (own := 11) (y := 0) (w := 510) (v := .int 1) (by decide +kernel) (by decide +kernel) rfl ?_
  exact e_if_eq zd54_3 (tg := 17) rfl kt kf
theorem b54_6 {x : zXs} {F : zF} (hF : zSh F) {d : Nat} {V : Nat → Nat → Int32} {T : Nat → Nat → Int64} {Q : Option Value → zG → Prop} {l0 : UInt32} (hl0 : l0.toNat < 12)  (kt : ¬ (0 : Int32) = 0 → E x F d 54 17 [some (.float l0)] [] (V, T) Q) (kf : ¬ (¬ (0 : Int32) = 0) → E x F d 54 13 [some (.float l0)] [] (V, T) Q) : E x F d 54 6 [some (.float l0)] [] (V, T) Q := by
  refine e_aload_n zd54_6 rfl rfl ?_
  refine e_getjc zd54_7 (own := 11) (w := 1340) (by decide +kernel) (by decide +kernel) (by decide +kernel) hl0 ?_
  exact e_if_ne zd54_10 (tg := 17) rfl kt kf
theorem b54_13 {x : zXs} {F : zF} (hF : zSh F) {d : Nat} {V : Nat → Nat → Int32} {T : Nat → Nat → Int64} {Q : Option Value → zG → Prop} {o0 : Option Value}   (k : E x F d 54 18 [o0] [.int (Int32.ofInt 1)] (V, T) Q) : E x F d 54 13 [o0] [] (V, T) Q := by
  refine e_iconst zd54_13 ?_
  exact e_goto zd54_14 (tg := 18) rfl k
theorem b54_17 {x : zXs} {F : zF} (hF : zSh F) {d : Nat} {V : Nat → Nat → Int32} {T : Nat → Nat → Int64} {Q : Option Value → zG → Prop} {o0 : Option Value}   (k : E x F d 54 18 [o0] [.int (Int32.ofInt 0)] (V, T) Q) : E x F d 54 17 [o0] [] (V, T) Q := by
  refine e_iconst zd54_17 ?_
  exact k
theorem b54_18 {x : zXs} {F : zF} (hF : zSh F) {d : Nat} {V : Nat → Nat → Int32} {T : Nat → Nat → Int64} {Q : Option Value → zG → Prop} {o0 : Option Value} {s0 : Int32}  (b1 : narrow .boolean (.int s0) = .int s0) (k : Q (some (.int s0)) (V, T)) : E x F d 54 18 [o0] [.int s0] (V, T) Q := by
  exact e_iretz zd54_18 zs54 b1 k
theorem zd55_0 : zop 55 0 = some (.iload_n 1, 1) := by decide +kernel
theorem zd55_1 : zop 55 1 = some (.aload_n 0, 1) := by decide +kernel
theorem zd55_2 : zop 55 2 = some (.arraylength, 1) := by decide +kernel
theorem zd55_3 : zop 55 3 = some (.invokestatic 9, 3) := by decide +kernel
theorem zd55_6 : zop 55 6 = some (.aload_n 0, 1) := by decide +kernel
theorem zd55_7 : zop 55 7 = some (.iload_n 1, 1) := by decide +kernel
theorem zd55_8 : zop 55 8 = some (.baload, 1) := by decide +kernel
theorem zd55_9 : zop 55 9 = some (.sipush 255, 3) := by decide +kernel
theorem zd55_12 : zop 55 12 = some (.iand, 1) := by decide +kernel
theorem zd55_13 : zop 55 13 = some (.i2c, 1) := by decide +kernel
theorem zd55_14 : zop 55 14 = some (.ireturn, 1) := by decide +kernel
theorem b55_0 {x : zXs} {F : zF} (hF : zSh F) {d : Nat} {V : Nat → Nat → Int32} {T : Nat → Nat → Int64} {Q : Option Value → zG → Prop} {l0 : UInt64} {l1 : Int32}  {y1 : Bool} {n1 : Nat} {f1 : Nat → Int32} (x1 : zxt x l0.toNat = some (y1, n1, f1)) (k : E x F d 56 0 [some (.int l1), some (.int (nI n1))] [] (V, T) (fun r G' => E x F (d + 1) 55 6 [some (.double l0), some (.int l1)] (r.toList ++ []) G' Q)) : E x F (d + 1) 55 0 [some (.double l0), some (.int l1)] [] (V, T) Q := by
  refine e_iload_n zd55_0 rfl ?_
  refine e_aload_n zd55_1 rfl rfl ?_
  refine e_alenX zd55_2 x1 ?_
  exact e_callS zd55_3 (own := 12) (nest := false) (w := 523) (by decide +kernel) (by decide +kernel) zs56 (as := [.int l1, .int (nI n1)]) (rest := []) rfl rfl (Nat.le_of_ble_eq_true rfl) rfl rfl rfl (by omega) k
theorem b55_6 {x : zXs} {F : zF} (hF : zSh F) {d : Nat} {V : Nat → Nat → Int32} {T : Nat → Nat → Int64} {Q : Option Value → zG → Prop} {l0 : UInt64} {l1 : Int32}  {n1 : Nat} {f1 : Nat → Int32} (x1 : zxt x l0.toNat = some (false, n1, f1)) {i2 : Nat} (e2 : l1 = nI i2) (h2 : i2 < n1) (m1 : n1 < 2 ^ 31) (b3 : narrow .char (.int ((((f1 i2) &&& (Int32.ofInt 255)).toUInt32 % 65536).toInt32)) = .int ((((f1 i2) &&& (Int32.ofInt 255)).toUInt32 % 65536).toInt32)) (k : Q (some (.int ((((f1 i2) &&& (Int32.ofInt 255)).toUInt32 % 65536).toInt32))) (V, T)) : E x F d 55 6 [some (.double l0), some (.int l1)] [] (V, T) Q := by
  refine e_aload_n zd55_6 rfl rfl ?_
  refine e_iload_n zd55_7 rfl ?_
  refine e_baldX zd55_8 x1 e2 h2 m1 ?_
  refine e_sipush zd55_9 (v := Int32.ofInt 255) (by decide +kernel) ?_
  refine e_iand zd55_12 ?_
  refine e_i2c zd55_13 ?_
  exact e_iretc zd55_14 zs55 b3 k
theorem zd56_0 : zop 56 0 = some (.iload_n 0, 1) := by decide +kernel
theorem zd56_1 : zop 56 1 = some (.iload_n 1, 1) := by decide +kernel
theorem zd56_2 : zop 56 2 = some (.getstatic 1053, 3) := by decide +kernel
theorem zd56_5 : zop 56 5 = some (.invokestatic 1059, 3) := by decide +kernel
theorem zd56_8 : zop 56 8 = some (.pop, 1) := by decide +kernel
theorem zd56_9 : zop 56 9 = some (.return_, 1) := by decide +kernel
theorem b56_0 {x : zXs} {F : zF} (hF : zSh F) {d : Nat} {V : Nat → Nat → Int32} {T : Nat → Nat → Int64} {Q : Option Value → zG → Prop} {l0 : Int32} {l1 : Int32}   (k : E x F d 57 0 [some (.int l0), some (.int l1), some (.retAddr 0)] [] (V, T) (fun r G' => E x F (d + 1) 56 8 [some (.int l0), some (.int l1)] (r.toList ++ []) G' Q)) : E x F (d + 1) 56 0 [some (.int l0), some (.int l1)] [] (V, T) Q := by
  refine e_iload_n zd56_0 rfl ?_
  refine e_iload_n zd56_1 rfl ?_
  refine e_gets zd56_2 (own := 11) (y := 2) (w := 526) (v := .retAddr 0) (by decide +kernel) (by decide +kernel) rfl ?_
  exact e_callS zd56_5 (own := 11) (nest := false) (w := 528) (by decide +kernel) (by decide +kernel) zs57 (as := [.int l0, .int l1, .retAddr 0]) (rest := []) rfl rfl (Nat.le_of_ble_eq_true rfl) rfl rfl rfl (by omega) k
theorem b56_8 {x : zXs} {F : zF} (hF : zSh F) {d : Nat} {V : Nat → Nat → Int32} {T : Nat → Nat → Int64} {Q : Option Value → zG → Prop} {o0 : Option Value} {o1 : Option Value} {s0 : Int32}   (k : Q none (V, T)) : E x F d 56 8 [o0, o1] [.int s0] (V, T) Q := by
  refine e_pop zd56_8 rfl ?_
  exact e_vret zd56_9 zs56 k
theorem zd57_0 : zop 57 0 = some (.iload_n 0, 1) := by decide +kernel
theorem zd57_1 : zop 57 1 = some (.ifCond .lt 8, 3) := by decide +kernel
theorem zd57_4 : zop 57 4 = some (.iload_n 0, 1) := by decide +kernel
theorem zd57_5 : zop 57 5 = some (.iload_n 1, 1) := by decide +kernel
theorem zd57_6 : zop 57 6 = some (.if_icmp .lt 10, 3) := by decide +kernel
theorem zd57_9 : zop 57 9 = some (.aload_n 2, 1) := by decide +kernel
theorem zd57_10 : zop 57 10 = some (.iload_n 0, 1) := by decide +kernel
theorem zd57_11 : zop 57 11 = some (.iload_n 1, 1) := by decide +kernel
theorem zd57_16 : zop 57 16 = some (.iload_n 0, 1) := by decide +kernel
theorem zd57_17 : zop 57 17 = some (.ireturn, 1) := by decide +kernel
theorem b57_0 {x : zXs} {F : zF} (hF : zSh F) {d : Nat} {V : Nat → Nat → Int32} {T : Nat → Nat → Int64} {Q : Option Value → zG → Prop} {l0 : Int32} {o1 : Option Value} {o2 : Option Value}   (kt : l0 < 0 → E x F d 57 9 [some (.int l0), o1, o2] [] (V, T) Q) (kf : ¬ (l0 < 0) → E x F d 57 4 [some (.int l0), o1, o2] [] (V, T) Q) : E x F d 57 0 [some (.int l0), o1, o2] [] (V, T) Q := by
  refine e_iload_n zd57_0 rfl ?_
  exact e_if_lt zd57_1 (tg := 9) rfl kt kf
theorem b57_4 {x : zXs} {F : zF} (hF : zSh F) {d : Nat} {V : Nat → Nat → Int32} {T : Nat → Nat → Int64} {Q : Option Value → zG → Prop} {l0 : Int32} {l1 : Int32} {o2 : Option Value}   (kt : l0 < l1 → E x F d 57 16 [some (.int l0), some (.int l1), o2] [] (V, T) Q) (kf : ¬ (l0 < l1) → E x F d 57 9 [some (.int l0), some (.int l1), o2] [] (V, T) Q) : E x F d 57 4 [some (.int l0), some (.int l1), o2] [] (V, T) Q := by
  refine e_iload_n zd57_4 rfl ?_
  refine e_iload_n zd57_5 rfl ?_
  exact e_icmp_lt zd57_6 (tg := 16) rfl kt kf
theorem b57_16 {x : zXs} {F : zF} (hF : zSh F) {d : Nat} {V : Nat → Nat → Int32} {T : Nat → Nat → Int64} {Q : Option Value → zG → Prop} {l0 : Int32} {o1 : Option Value} {o2 : Option Value}   (k : Q (some (.int l0)) (V, T)) : E x F d 57 16 [some (.int l0), o1, o2] [] (V, T) Q := by
  refine e_iload_n zd57_16 rfl ?_
  exact e_ireti zd57_17 zs57 k
theorem zd58_0 : zop 58 0 = some (.iload_n 0, 1) := by decide +kernel
theorem zd58_1 : zop 58 1 = some (.bipush 48, 2) := by decide +kernel
theorem zd58_3 : zop 58 3 = some (.if_icmp .lt 13, 3) := by decide +kernel
theorem zd58_6 : zop 58 6 = some (.iload_n 0, 1) := by decide +kernel
theorem zd58_7 : zop 58 7 = some (.bipush 57, 2) := by decide +kernel
theorem zd58_9 : zop 58 9 = some (.if_icmp .gt 7, 3) := by decide +kernel
theorem zd58_12 : zop 58 12 = some (.iconst 1, 1) := by decide +kernel
theorem zd58_13 : zop 58 13 = some (.goto 4, 3) := by decide +kernel
theorem zd58_16 : zop 58 16 = some (.iconst 0, 1) := by decide +kernel
theorem zd58_17 : zop 58 17 = some (.ireturn, 1) := by decide +kernel
theorem b58_0 {x : zXs} {F : zF} (hF : zSh F) {d : Nat} {V : Nat → Nat → Int32} {T : Nat → Nat → Int64} {Q : Option Value → zG → Prop} {l0 : Int32}   (kt : l0 < (Int32.ofInt 48) → E x F d 58 16 [some (.int l0)] [] (V, T) Q) (kf : ¬ (l0 < (Int32.ofInt 48)) → E x F d 58 6 [some (.int l0)] [] (V, T) Q) : E x F d 58 0 [some (.int l0)] [] (V, T) Q := by
  refine e_iload_n zd58_0 rfl ?_
  refine e_bipush zd58_1 (v := Int32.ofInt 48) (by decide +kernel) ?_
  exact e_icmp_lt zd58_3 (tg := 16) rfl kt kf
theorem b58_6 {x : zXs} {F : zF} (hF : zSh F) {d : Nat} {V : Nat → Nat → Int32} {T : Nat → Nat → Int64} {Q : Option Value → zG → Prop} {l0 : Int32}   (kt : (Int32.ofInt 57) < l0 → E x F d 58 16 [some (.int l0)] [] (V, T) Q) (kf : ¬ ((Int32.ofInt 57) < l0) → E x F d 58 12 [some (.int l0)] [] (V, T) Q) : E x F d 58 6 [some (.int l0)] [] (V, T) Q := by
  refine e_iload_n zd58_6 rfl ?_
  refine e_bipush zd58_7 (v := Int32.ofInt 57) (by decide +kernel) ?_
  exact e_icmp_gt zd58_9 (tg := 16) rfl kt kf
theorem b58_12 {x : zXs} {F : zF} (hF : zSh F) {d : Nat} {V : Nat → Nat → Int32} {T : Nat → Nat → Int64} {Q : Option Value → zG → Prop} {o0 : Option Value}   (k : E x F d 58 17 [o0] [.int (Int32.ofInt 1)] (V, T) Q) : E x F d 58 12 [o0] [] (V, T) Q := by
  refine e_iconst zd58_12 ?_
  exact e_goto zd58_13 (tg := 17) rfl k
theorem b58_16 {x : zXs} {F : zF} (hF : zSh F) {d : Nat} {V : Nat → Nat → Int32} {T : Nat → Nat → Int64} {Q : Option Value → zG → Prop} {o0 : Option Value}   (k : E x F d 58 17 [o0] [.int (Int32.ofInt 0)] (V, T) Q) : E x F d 58 16 [o0] [] (V, T) Q := by
  refine e_iconst zd58_16 ?_
  exact k
theorem b58_17 {x : zXs} {F : zF} (hF : zSh F) {d : Nat} {V : Nat → Nat → Int32} {T : Nat → Nat → Int64} {Q : Option Value → zG → Prop} {o0 : Option Value} {s0 : Int32}  (b1 : narrow .boolean (.int s0) = .int s0) (k : Q (some (.int s0)) (V, T)) : E x F d 58 17 [o0] [.int s0] (V, T) Q := by
  exact e_iretz zd58_17 zs58 b1 k
theorem zd59_0 : zop 59 0 = some (.aload_n 0, 1) := by decide +kernel
theorem zd59_1 : zop 59 1 = some (.aload_n 0, 1) := by decide +kernel
theorem zd59_2 : zop 59 2 = some (.getfield 82, 3) := by decide +kernel
theorem zd59_5 : zop 59 5 = some (.putfield 35, 3) := by decide +kernel
theorem zd59_8 : zop 59 8 = some (.aload_n 0, 1) := by decide +kernel
theorem zd59_9 : zop 59 9 = some (.iconst 0, 1) := by decide +kernel
theorem zd59_10 : zop 59 10 = some (.putfield 76, 3) := by decide +kernel
theorem zd59_13 : zop 59 13 = some (.aload_n 0, 1) := by decide +kernel
theorem zd59_14 : zop 59 14 = some (.getfield 35, 3) := by decide +kernel
theorem zd59_17 : zop 59 17 = some (.aload_n 0, 1) := by decide +kernel
theorem zd59_18 : zop 59 18 = some (.getfield 22, 3) := by decide +kernel
theorem zd59_21 : zop 59 21 = some (.if_icmp .ge 55, 3) := by decide +kernel
theorem zd59_24 : zop 59 24 = some (.aload_n 0, 1) := by decide +kernel
theorem zd59_25 : zop 59 25 = some (.getfield 9, 3) := by decide +kernel
theorem zd59_28 : zop 59 28 = some (.aload_n 0, 1) := by decide +kernel
theorem zd59_29 : zop 59 29 = some (.getfield 35, 3) := by decide +kernel
theorem zd59_32 : zop 59 32 = some (.iaload, 1) := by decide +kernel
theorem zd59_33 : zop 59 33 = some (.invokestatic 92, 3) := by decide +kernel
theorem zd59_36 : zop 59 36 = some (.ifCond .eq 40, 3) := by decide +kernel
theorem zd59_39 : zop 59 39 = some (.aload_n 0, 1) := by decide +kernel
theorem zd59_40 : zop 59 40 = some (.aload_n 0, 1) := by decide +kernel
theorem zd59_41 : zop 59 41 = some (.getfield 76, 3) := by decide +kernel
theorem zd59_44 : zop 59 44 = some (.bipush 10, 2) := by decide +kernel
theorem zd59_46 : zop 59 46 = some (.imul, 1) := by decide +kernel
theorem zd59_47 : zop 59 47 = some (.aload_n 0, 1) := by decide +kernel
theorem zd59_48 : zop 59 48 = some (.getfield 9, 3) := by decide +kernel
theorem zd59_51 : zop 59 51 = some (.aload_n 0, 1) := by decide +kernel
theorem zd59_52 : zop 59 52 = some (.getfield 35, 3) := by decide +kernel
theorem zd59_55 : zop 59 55 = some (.iaload, 1) := by decide +kernel
theorem zd59_56 : zop 59 56 = some (.iadd, 1) := by decide +kernel
theorem zd59_57 : zop 59 57 = some (.bipush 48, 2) := by decide +kernel
theorem zd59_59 : zop 59 59 = some (.isub, 1) := by decide +kernel
theorem zd59_60 : zop 59 60 = some (.putfield 76, 3) := by decide +kernel
theorem zd59_63 : zop 59 63 = some (.aload_n 0, 1) := by decide +kernel
theorem zd59_64 : zop 59 64 = some (.dup, 1) := by decide +kernel
theorem zd59_65 : zop 59 65 = some (.getfield 35, 3) := by decide +kernel
theorem zd59_68 : zop 59 68 = some (.iconst 1, 1) := by decide +kernel
theorem zd59_69 : zop 59 69 = some (.iadd, 1) := by decide +kernel
theorem zd59_70 : zop 59 70 = some (.putfield 35, 3) := by decide +kernel
theorem zd59_73 : zop 59 73 = some (.goto (-60), 3) := by decide +kernel
theorem zd59_76 : zop 59 76 = some (.aload_n 0, 1) := by decide +kernel
theorem zd59_77 : zop 59 77 = some (.aload_n 0, 1) := by decide +kernel
theorem zd59_78 : zop 59 78 = some (.getfield 35, 3) := by decide +kernel
theorem zd59_81 : zop 59 81 = some (.aload_n 0, 1) := by decide +kernel
theorem zd59_82 : zop 59 82 = some (.getfield 82, 3) := by decide +kernel
theorem zd59_85 : zop 59 85 = some (.isub, 1) := by decide +kernel
theorem zd59_86 : zop 59 86 = some (.iconst 4, 1) := by decide +kernel
theorem zd59_87 : zop 59 87 = some (.if_icmp .le 7, 3) := by decide +kernel
theorem zd59_90 : zop 59 90 = some (.iconst 1, 1) := by decide +kernel
theorem zd59_91 : zop 59 91 = some (.goto 4, 3) := by decide +kernel
theorem zd59_94 : zop 59 94 = some (.iconst 2, 1) := by decide +kernel
theorem zd59_95 : zop 59 95 = some (.putfield 54, 3) := by decide +kernel
theorem zd59_98 : zop 59 98 = some (.return_, 1) := by decide +kernel
theorem b59_0 {x : zXs} {F : zF} (hF : zSh F) {d : Nat} {V : Nat → Nat → Int32} {T : Nat → Nat → Int64} {Q : Option Value → zG → Prop}    (k : E x F d 59 13 [some (.ref 45)] [] (zu (zu V 45 6 (V 45 5)) 45 4 (Int32.ofInt 0), T) Q) : E x F d 59 0 [some (.ref 45)] [] (V, T) Q := by
  refine e_aload_n zd59_0 rfl rfl ?_
  refine e_aload_n zd59_1 rfl rfl ?_
  refine e_getI zd59_2 (own := 5) (ci := 5) (kf := 5) (w := 254) (by decide +kernel) (by decide +kernel) (zsh_at hF rfl).1 (by decide +kernel) rfl ?_
  refine e_putI zd59_5 (own := 5) (ci := 5) (kf := 6) (w := 255) (by decide +kernel) (by decide +kernel) (zsh_at hF rfl).1 (by decide +kernel) rfl ?_
  refine e_aload_n zd59_8 rfl rfl ?_
  refine e_iconst zd59_9 ?_
  refine e_putI zd59_10 (own := 5) (ci := 5) (kf := 4) (w := 253) (by decide +kernel) (by decide +kernel) (zsh_at hF rfl).1 (by decide +kernel) rfl ?_
  exact k
theorem b59_13 {x : zXs} {F : zF} (hF : zSh F) {d : Nat} {V : Nat → Nat → Int32} {T : Nat → Nat → Int64} {Q : Option Value → zG → Prop}    (kt : (V 45 1) ≤ (V 45 6) → E x F d 59 76 [some (.ref 45)] [] (V, T) Q) (kf : ¬ ((V 45 1) ≤ (V 45 6)) → E x F d 59 24 [some (.ref 45)] [] (V, T) Q) : E x F d 59 13 [some (.ref 45)] [] (V, T) Q := by
  refine e_aload_n zd59_13 rfl rfl ?_
  refine e_getI zd59_14 (own := 5) (ci := 5) (kf := 6) (w := 255) (by decide +kernel) (by decide +kernel) (zsh_at hF rfl).1 (by decide +kernel) rfl ?_
  refine e_aload_n zd59_17 rfl rfl ?_
  refine e_getI zd59_18 (own := 5) (ci := 5) (kf := 1) (w := 248) (by decide +kernel) (by decide +kernel) (zsh_at hF rfl).1 (by decide +kernel) rfl ?_
  exact e_icmp_ge zd59_21 (tg := 76) rfl kt kf
theorem b59_24 {x : zXs} {F : zF} (hF : zSh F) {d : Nat} {V : Nat → Nat → Int32} {T : Nat → Nat → Int64} {Q : Option Value → zG → Prop}   {i1 : Nat} (e1 : V 45 6 = nI i1) (h1 : i1 < 160) (k : E x F d 58 0 [some (.int (V 46 i1))] [] (V, T) (fun r G' => E x F (d + 1) 59 36 [some (.ref 45)] (r.toList ++ []) G' Q)) : E x F (d + 1) 59 24 [some (.ref 45)] [] (V, T) Q := by
  refine e_aload_n zd59_24 rfl rfl ?_
  refine e_getA zd59_25 (own := 5) (ci := 5) (kf := 0) (w := 247) (by decide +kernel) (by decide +kernel) (zsh_at hF rfl).1 (by decide +kernel) rfl (zrf_at hF (i := 47) rfl) ?_
  refine e_aload_n zd59_28 rfl rfl ?_
  refine e_getI zd59_29 (own := 5) (ci := 5) (kf := 6) (w := 255) (by decide +kernel) (by decide +kernel) (zsh_at hF rfl).1 (by decide +kernel) rfl ?_
  refine e_iald zd59_32 (i := i1) (zsh_at hF rfl) e1 h1 (by omega) ?_
  exact e_callS zd59_33 (own := 5) (nest := false) (w := 550) (by decide +kernel) (by decide +kernel) zs58 (as := [.int (V 46 i1)]) (rest := []) rfl rfl (Nat.le_of_ble_eq_true rfl) rfl rfl rfl (by omega) k
theorem b59_36 {x : zXs} {F : zF} (hF : zSh F) {d : Nat} {V : Nat → Nat → Int32} {T : Nat → Nat → Int64} {Q : Option Value → zG → Prop} {o0 : Option Value} {s0 : Int32}   (kt : s0 = 0 → E x F d 59 76 [o0] [] (V, T) Q) (kf : ¬ (s0 = 0) → E x F d 59 39 [o0] [] (V, T) Q) : E x F d 59 36 [o0] [.int s0] (V, T) Q := by
  exact e_if_eq zd59_36 (tg := 76) rfl kt kf
theorem b59_39 {x : zXs} {F : zF} (hF : zSh F) {d : Nat} {V : Nat → Nat → Int32} {T : Nat → Nat → Int64} {Q : Option Value → zG → Prop}   {i1 : Nat} (e1 : V 45 6 = nI i1) (h1 : i1 < 160) (k : E x F d 59 13 [some (.ref 45)] [] (zu (zu V 45 4 ((((V 45 4) * (Int32.ofInt 10)) + (V 46 i1)) - (Int32.ofInt 48))) 45 6 (((zu V 45 4 ((((V 45 4) * (Int32.ofInt 10)) + (V 46 i1)) - (Int32.ofInt 48))) 45 6) + (Int32.ofInt 1)), T) Q) : E x F d 59 39 [some (.ref 45)] [] (V, T) Q := by
  refine e_aload_n zd59_39 rfl rfl ?_
  refine e_aload_n zd59_40 rfl rfl ?_
  refine e_getI zd59_41 (own := 5) (ci := 5) (kf := 4) (w := 253) (by decide +kernel) (by decide +kernel) (zsh_at hF rfl).1 (by decide +kernel) rfl ?_
  refine e_bipush zd59_44 (v := Int32.ofInt 10) (by decide +kernel) ?_
  refine e_imul zd59_46 ?_
  refine e_aload_n zd59_47 rfl rfl ?_
  refine e_getA zd59_48 (own := 5) (ci := 5) (kf := 0) (w := 247) (by decide +kernel) (by decide +kernel) (zsh_at hF rfl).1 (by decide +kernel) rfl (zrf_at hF (i := 47) rfl) ?_
  refine e_aload_n zd59_51 rfl rfl ?_
  refine e_getI zd59_52 (own := 5) (ci := 5) (kf := 6) (w := 255) (by decide +kernel) (by decide +kernel) (zsh_at hF rfl).1 (by decide +kernel) rfl ?_
  refine e_iald zd59_55 (i := i1) (zsh_at hF rfl) e1 h1 (by omega) ?_
  refine e_iadd zd59_56 ?_
  refine e_bipush zd59_57 (v := Int32.ofInt 48) (by decide +kernel) ?_
  refine e_isub zd59_59 ?_
  refine e_putI zd59_60 (own := 5) (ci := 5) (kf := 4) (w := 253) (by decide +kernel) (by decide +kernel) (zsh_at hF rfl).1 (by decide +kernel) rfl ?_
  refine e_aload_n zd59_63 rfl rfl ?_
  refine e_dup zd59_64 rfl ?_
  refine e_getI zd59_65 (own := 5) (ci := 5) (kf := 6) (w := 255) (by decide +kernel) (by decide +kernel) (zsh_at hF rfl).1 (by decide +kernel) rfl ?_
  refine e_iconst zd59_68 ?_
  refine e_iadd zd59_69 ?_
  refine e_putI zd59_70 (own := 5) (ci := 5) (kf := 6) (w := 255) (by decide +kernel) (by decide +kernel) (zsh_at hF rfl).1 (by decide +kernel) rfl ?_
  exact e_goto zd59_73 (tg := 13) rfl k
theorem b59_76 {x : zXs} {F : zF} (hF : zSh F) {d : Nat} {V : Nat → Nat → Int32} {T : Nat → Nat → Int64} {Q : Option Value → zG → Prop}    (kt : ((V 45 6) - (V 45 5)) ≤ (Int32.ofInt 4) → E x F d 59 94 [some (.ref 45)] [.ref 45] (V, T) Q) (kf : ¬ (((V 45 6) - (V 45 5)) ≤ (Int32.ofInt 4)) → E x F d 59 90 [some (.ref 45)] [.ref 45] (V, T) Q) : E x F d 59 76 [some (.ref 45)] [] (V, T) Q := by
  refine e_aload_n zd59_76 rfl rfl ?_
  refine e_aload_n zd59_77 rfl rfl ?_
  refine e_getI zd59_78 (own := 5) (ci := 5) (kf := 6) (w := 255) (by decide +kernel) (by decide +kernel) (zsh_at hF rfl).1 (by decide +kernel) rfl ?_
  refine e_aload_n zd59_81 rfl rfl ?_
  refine e_getI zd59_82 (own := 5) (ci := 5) (kf := 5) (w := 254) (by decide +kernel) (by decide +kernel) (zsh_at hF rfl).1 (by decide +kernel) rfl ?_
  refine e_isub zd59_85 ?_
  refine e_iconst zd59_86 ?_
  exact e_icmp_le zd59_87 (tg := 94) rfl kt kf
theorem b59_90 {x : zXs} {F : zF} (hF : zSh F) {d : Nat} {V : Nat → Nat → Int32} {T : Nat → Nat → Int64} {Q : Option Value → zG → Prop} {o0 : Option Value}   (k : E x F d 59 95 [o0] [.int (Int32.ofInt 1), .ref 45] (V, T) Q) : E x F d 59 90 [o0] [.ref 45] (V, T) Q := by
  refine e_iconst zd59_90 ?_
  exact e_goto zd59_91 (tg := 95) rfl k
theorem b59_94 {x : zXs} {F : zF} (hF : zSh F) {d : Nat} {V : Nat → Nat → Int32} {T : Nat → Nat → Int64} {Q : Option Value → zG → Prop} {o0 : Option Value}   (k : E x F d 59 95 [o0] [.int (Int32.ofInt 2), .ref 45] (V, T) Q) : E x F d 59 94 [o0] [.ref 45] (V, T) Q := by
  refine e_iconst zd59_94 ?_
  exact k
theorem b59_95 {x : zXs} {F : zF} (hF : zSh F) {d : Nat} {V : Nat → Nat → Int32} {T : Nat → Nat → Int64} {Q : Option Value → zG → Prop} {o0 : Option Value} {s1 : Int32}   (k : Q none (zu V 45 3 s1, T)) : E x F d 59 95 [o0] [.int s1, .ref 45] (V, T) Q := by
  refine e_putI zd59_95 (own := 5) (ci := 5) (kf := 3) (w := 252) (by decide +kernel) (by decide +kernel) (zsh_at hF rfl).1 (by decide +kernel) rfl ?_
  exact e_vret zd59_98 zs59 k
theorem zd60_0 : zop 60 0 = some (.iload_n 0, 1) := by decide +kernel
theorem zd60_1 : zop 60 1 = some (.tableswitch 105 40 61 #[103, 103, 103, 103, 105, 103, 105, 105, 105, 105, 105, 105, 105, 105, 105, 105, 105, 105, 105, 103, 103, 103], 103) := by decide +kernel
theorem zd60_104 : zop 60 104 = some (.iconst 1, 1) := by decide +kernel
theorem zd60_105 : zop 60 105 = some (.ireturn, 1) := by decide +kernel
theorem zd60_106 : zop 60 106 = some (.iconst 0, 1) := by decide +kernel
theorem zd60_107 : zop 60 107 = some (.ireturn, 1) := by decide +kernel
theorem b60_0 {x : zXs} {F : zF} (hF : zSh F) {d : Nat} {V : Nat → Nat → Int32} {T : Nat → Nat → Int64} {Q : Option Value → zG → Prop} {l0 : Int32}   (k0 : l0 = Int32.ofInt 40 → E x F d 60 104 [some (.int l0)] [] (V, T) Q) (k1 : l0 = Int32.ofInt 41 → E x F d 60 104 [some (.int l0)] [] (V, T) Q) (k2 : l0 = Int32.ofInt 42 → E x F d 60 104 [some (.int l0)] [] (V, T) Q) (k3 : l0 = Int32.ofInt 43 → E x F d 60 104 [some (.int l0)] [] (V, T) Q) (k4 : l0 = Int32.ofInt 44 → E x F d 60 106 [some (.int l0)] [] (V, T) Q) (k5 : l0 = Int32.ofInt 45 → E x F d 60 104 [some (.int l0)] [] (V, T) Q) (k6 : l0 = Int32.ofInt 46 → E x F d 60 106 [some (.int l0)] [] (V, T) Q) (k7 : l0 = Int32.ofInt 47 → E x F d 60 106 [some (.int l0)] [] (V, T) Q) (k8 : l0 = Int32.ofInt 48 → E x F d 60 106 [some (.int l0)] [] (V, T) Q) (k9 : l0 = Int32.ofInt 49 → E x F d 60 106 [some (.int l0)] [] (V, T) Q) (k10 : l0 = Int32.ofInt 50 → E x F d 60 106 [some (.int l0)] [] (V, T) Q) (k11 : l0 = Int32.ofInt 51 → E x F d 60 106 [some (.int l0)] [] (V, T) Q) (k12 : l0 = Int32.ofInt 52 → E x F d 60 106 [some (.int l0)] [] (V, T) Q) (k13 : l0 = Int32.ofInt 53 → E x F d 60 106 [some (.int l0)] [] (V, T) Q) (k14 : l0 = Int32.ofInt 54 → E x F d 60 106 [some (.int l0)] [] (V, T) Q) (k15 : l0 = Int32.ofInt 55 → E x F d 60 106 [some (.int l0)] [] (V, T) Q) (k16 : l0 = Int32.ofInt 56 → E x F d 60 106 [some (.int l0)] [] (V, T) Q) (k17 : l0 = Int32.ofInt 57 → E x F d 60 106 [some (.int l0)] [] (V, T) Q) (k18 : l0 = Int32.ofInt 58 → E x F d 60 106 [some (.int l0)] [] (V, T) Q) (k19 : l0 = Int32.ofInt 59 → E x F d 60 104 [some (.int l0)] [] (V, T) Q) (k20 : l0 = Int32.ofInt 60 → E x F d 60 104 [some (.int l0)] [] (V, T) Q) (k21 : l0 = Int32.ofInt 61 → E x F d 60 104 [some (.int l0)] [] (V, T) Q) (kd : ¬ l0 = Int32.ofInt 40 ∧ ¬ l0 = Int32.ofInt 41 ∧ ¬ l0 = Int32.ofInt 42 ∧ ¬ l0 = Int32.ofInt 43 ∧ ¬ l0 = Int32.ofInt 44 ∧ ¬ l0 = Int32.ofInt 45 ∧ ¬ l0 = Int32.ofInt 46 ∧ ¬ l0 = Int32.ofInt 47 ∧ ¬ l0 = Int32.ofInt 48 ∧ ¬ l0 = Int32.ofInt 49 ∧ ¬ l0 = Int32.ofInt 50 ∧ ¬ l0 = Int32.ofInt 51 ∧ ¬ l0 = Int32.ofInt 52 ∧ ¬ l0 = Int32.ofInt 53 ∧ ¬ l0 = Int32.ofInt 54 ∧ ¬ l0 = Int32.ofInt 55 ∧ ¬ l0 = Int32.ofInt 56 ∧ ¬ l0 = Int32.ofInt 57 ∧ ¬ l0 = Int32.ofInt 58 ∧ ¬ l0 = Int32.ofInt 59 ∧ ¬ l0 = Int32.ofInt 60 ∧ ¬ l0 = Int32.ofInt 61 → E x F d 60 106 [some (.int l0)] [] (V, T) Q) : E x F d 60 0 [some (.int l0)] [] (V, T) Q := by
  refine e_iload_n zd60_0 rfl ?_
  by_cases c0 : l0 = Int32.ofInt 40
  · exact e_tableIn zd60_1 (off := 103) (by rw [c0]; decide +kernel) (by rw [c0]; decide +kernel) (tg := 104) rfl (k0 c0)
  by_cases c1 : l0 = Int32.ofInt 41
  · exact e_tableIn zd60_1 (off := 103) (by rw [c1]; decide +kernel) (by rw [c1]; decide +kernel) (tg := 104) rfl (k1 c1)
  by_cases c2 : l0 = Int32.ofInt 42
  · exact e_tableIn zd60_1 (off := 103) (by rw [c2]; decide +kernel) (by rw [c2]; decide +kernel) (tg := 104) rfl (k2 c2)
  by_cases c3 : l0 = Int32.ofInt 43
  · exact e_tableIn zd60_1 (off := 103) (by rw [c3]; decide +kernel) (by rw [c3]; decide +kernel) (tg := 104) rfl (k3 c3)
  by_cases c4 : l0 = Int32.ofInt 44
  · exact e_tableIn zd60_1 (off := 105) (by rw [c4]; decide +kernel) (by rw [c4]; decide +kernel) (tg := 106) rfl (k4 c4)
  by_cases c5 : l0 = Int32.ofInt 45
  · exact e_tableIn zd60_1 (off := 103) (by rw [c5]; decide +kernel) (by rw [c5]; decide +kernel) (tg := 104) rfl (k5 c5)
  by_cases c6 : l0 = Int32.ofInt 46
  · exact e_tableIn zd60_1 (off := 105) (by rw [c6]; decide +kernel) (by rw [c6]; decide +kernel) (tg := 106) rfl (k6 c6)
  by_cases c7 : l0 = Int32.ofInt 47
  · exact e_tableIn zd60_1 (off := 105) (by rw [c7]; decide +kernel) (by rw [c7]; decide +kernel) (tg := 106) rfl (k7 c7)
  by_cases c8 : l0 = Int32.ofInt 48
  · exact e_tableIn zd60_1 (off := 105) (by rw [c8]; decide +kernel) (by rw [c8]; decide +kernel) (tg := 106) rfl (k8 c8)
  by_cases c9 : l0 = Int32.ofInt 49
  · exact e_tableIn zd60_1 (off := 105) (by rw [c9]; decide +kernel) (by rw [c9]; decide +kernel) (tg := 106) rfl (k9 c9)
  by_cases c10 : l0 = Int32.ofInt 50
  · exact e_tableIn zd60_1 (off := 105) (by rw [c10]; decide +kernel) (by rw [c10]; decide +kernel) (tg := 106) rfl (k10 c10)
  by_cases c11 : l0 = Int32.ofInt 51
  · exact e_tableIn zd60_1 (off := 105) (by rw [c11]; decide +kernel) (by rw [c11]; decide +kernel) (tg := 106) rfl (k11 c11)
  by_cases c12 : l0 = Int32.ofInt 52
  · exact e_tableIn zd60_1 (off := 105) (by rw [c12]; decide +kernel) (by rw [c12]; decide +kernel) (tg := 106) rfl (k12 c12)
  by_cases c13 : l0 = Int32.ofInt 53
  · exact e_tableIn zd60_1 (off := 105) (by rw [c13]; decide +kernel) (by rw [c13]; decide +kernel) (tg := 106) rfl (k13 c13)
  by_cases c14 : l0 = Int32.ofInt 54
  · exact e_tableIn zd60_1 (off := 105) (by rw [c14]; decide +kernel) (by rw [c14]; decide +kernel) (tg := 106) rfl (k14 c14)
  by_cases c15 : l0 = Int32.ofInt 55
  · exact e_tableIn zd60_1 (off := 105) (by rw [c15]; decide +kernel) (by rw [c15]; decide +kernel) (tg := 106) rfl (k15 c15)
  by_cases c16 : l0 = Int32.ofInt 56
  · exact e_tableIn zd60_1 (off := 105) (by rw [c16]; decide +kernel) (by rw [c16]; decide +kernel) (tg := 106) rfl (k16 c16)
  by_cases c17 : l0 = Int32.ofInt 57
  · exact e_tableIn zd60_1 (off := 105) (by rw [c17]; decide +kernel) (by rw [c17]; decide +kernel) (tg := 106) rfl (k17 c17)
  by_cases c18 : l0 = Int32.ofInt 58
  · exact e_tableIn zd60_1 (off := 105) (by rw [c18]; decide +kernel) (by rw [c18]; decide +kernel) (tg := 106) rfl (k18 c18)
  by_cases c19 : l0 = Int32.ofInt 59
  · exact e_tableIn zd60_1 (off := 103) (by rw [c19]; decide +kernel) (by rw [c19]; decide +kernel) (tg := 104) rfl (k19 c19)
  by_cases c20 : l0 = Int32.ofInt 60
  · exact e_tableIn zd60_1 (off := 103) (by rw [c20]; decide +kernel) (by rw [c20]; decide +kernel) (tg := 104) rfl (k20 c20)
  by_cases c21 : l0 = Int32.ofInt 61
  · exact e_tableIn zd60_1 (off := 103) (by rw [c21]; decide +kernel) (by rw [c21]; decide +kernel) (tg := 104) rfl (k21 c21)
  exact e_tableOut zd60_1 (zsw_out (lo := 40) (hi := 61) (by decide) (by decide) (fun v h1 h2 h => by
    rcases (show v = 40 ∨ v = 41 ∨ v = 42 ∨ v = 43 ∨ v = 44 ∨ v = 45 ∨ v = 46 ∨ v = 47 ∨ v = 48 ∨ v = 49 ∨ v = 50 ∨ v = 51 ∨ v = 52 ∨ v = 53 ∨ v = 54 ∨ v = 55 ∨ v = 56 ∨ v = 57 ∨ v = 58 ∨ v = 59 ∨ v = 60 ∨ v = 61 by omega) with rfl | rfl | rfl | rfl | rfl | rfl | rfl | rfl | rfl | rfl | rfl | rfl | rfl | rfl | rfl | rfl | rfl | rfl | rfl | rfl | rfl | rfl
    · exact c0 h
    · exact c1 h
    · exact c2 h
    · exact c3 h
    · exact c4 h
    · exact c5 h
    · exact c6 h
    · exact c7 h
    · exact c8 h
    · exact c9 h
    · exact c10 h
    · exact c11 h
    · exact c12 h
    · exact c13 h
    · exact c14 h
    · exact c15 h
    · exact c16 h
    · exact c17 h
    · exact c18 h
    · exact c19 h
    · exact c20 h
    · exact c21 h)) (tg := 106) rfl (kd ⟨c0, c1, c2, c3, c4, c5, c6, c7, c8, c9, c10, c11, c12, c13, c14, c15, c16, c17, c18, c19, c20, c21⟩)
theorem b60_104 {x : zXs} {F : zF} (hF : zSh F) {d : Nat} {V : Nat → Nat → Int32} {T : Nat → Nat → Int64} {Q : Option Value → zG → Prop} {o0 : Option Value}   (k : Q (some (.int (Int32.ofInt 1))) (V, T)) : E x F d 60 104 [o0] [] (V, T) Q := by
  refine e_iconst zd60_104 ?_
  exact e_iretz zd60_105 zs60 (by decide +kernel) k
theorem b60_106 {x : zXs} {F : zF} (hF : zSh F) {d : Nat} {V : Nat → Nat → Int32} {T : Nat → Nat → Int64} {Q : Option Value → zG → Prop} {o0 : Option Value}   (k : Q (some (.int (Int32.ofInt 0))) (V, T)) : E x F d 60 106 [o0] [] (V, T) Q := by
  refine e_iconst zd60_106 ?_
  exact e_iretz zd60_107 zs60 (by decide +kernel) k
theorem zd61_0 : zop 61 0 = some (.aload_n 0, 1) := by decide +kernel
theorem zd61_1 : zop 61 1 = some (.getfield 54, 3) := by decide +kernel
theorem zd61_4 : zop 61 4 = some (.iload_n 1, 1) := by decide +kernel
theorem zd61_5 : zop 61 5 = some (.if_icmp .ne 10, 3) := by decide +kernel
theorem zd61_8 : zop 61 8 = some (.aload_n 0, 1) := by decide +kernel
theorem zd61_9 : zop 61 9 = some (.invokevirtual 38, 3) := by decide +kernel
theorem zd61_12 : zop 61 12 = some (.goto 7, 3) := by decide +kernel
theorem zd61_15 : zop 61 15 = some (.aload_n 0, 1) := by decide +kernel
theorem zd61_16 : zop 61 16 = some (.invokevirtual 79, 3) := by decide +kernel
theorem zd61_19 : zop 61 19 = some (.return_, 1) := by decide +kernel
theorem b61_0 {x : zXs} {F : zF} (hF : zSh F) {d : Nat} {V : Nat → Nat → Int32} {T : Nat → Nat → Int64} {Q : Option Value → zG → Prop} {l1 : Int32}   (kt : ¬ (V 45 3) = l1 → E x F d 61 15 [some (.ref 45), some (.int l1)] [] (V, T) Q) (kf : ¬ (¬ (V 45 3) = l1) → E x F d 61 8 [some (.ref 45), some (.int l1)] [] (V, T) Q) : E x F d 61 0 [some (.ref 45), some (.int l1)] [] (V, T) Q := by
  refine e_aload_n zd61_0 rfl rfl ?_
  refine e_getI zd61_1 (own := 5) (ci := 5) (kf := 3) (w := 252) (by decide +kernel) (by decide +kernel) (zsh_at hF rfl).1 (by decide +kernel) rfl ?_
  refine e_iload_n zd61_4 rfl ?_
  exact e_icmp_ne zd61_5 (tg := 15) rfl kt kf
theorem b61_8 {x : zXs} {F : zF} (hF : zSh F) {d : Nat} {V : Nat → Nat → Int32} {T : Nat → Nat → Int64} {Q : Option Value → zG → Prop} {o1 : Option Value}   (k : E x F d 46 0 [some (.ref 45)] [] (V, T) (fun r G' => E x F (d + 1) 61 12 [some (.ref 45), o1] (r.toList ++ []) G' Q)) : E x F (d + 1) 61 8 [some (.ref 45), o1] [] (V, T) Q := by
  refine e_aload_n zd61_8 rfl rfl ?_
  exact e_callV zd61_9 (own := 5) (nest := false) (w := 472) (by decide +kernel) (by decide +kernel) zs46 (as := []) (rest := []) rfl rfl (zsh_at hF rfl).1 (by omega) (Nat.le_of_ble_eq_true rfl) rfl rfl rfl (by omega) k
theorem b61_12 {x : zXs} {F : zF} (hF : zSh F) {d : Nat} {V : Nat → Nat → Int32} {T : Nat → Nat → Int64} {Q : Option Value → zG → Prop} {o0 : Option Value} {o1 : Option Value}   (k : E x F d 61 19 [o0, o1] [] (V, T) Q) : E x F d 61 12 [o0, o1] [] (V, T) Q := by
  exact e_goto zd61_12 (tg := 19) rfl k
theorem b61_15 {x : zXs} {F : zF} (hF : zSh F) {d : Nat} {V : Nat → Nat → Int32} {T : Nat → Nat → Int64} {Q : Option Value → zG → Prop} {o1 : Option Value}   (k : E x F d 62 0 [some (.ref 45)] [] (V, T) (fun r G' => E x F (d + 1) 61 19 [some (.ref 45), o1] (r.toList ++ []) G' Q)) : E x F (d + 1) 61 15 [some (.ref 45), o1] [] (V, T) Q := by
  refine e_aload_n zd61_15 rfl rfl ?_
  exact e_callV zd61_16 (own := 5) (nest := false) (w := 564) (by decide +kernel) (by decide +kernel) zs62 (as := []) (rest := []) rfl rfl (zsh_at hF rfl).1 (by omega) (Nat.le_of_ble_eq_true rfl) rfl rfl rfl (by omega) k
theorem b61_19 {x : zXs} {F : zF} (hF : zSh F) {d : Nat} {V : Nat → Nat → Int32} {T : Nat → Nat → Int64} {Q : Option Value → zG → Prop} {o0 : Option Value} {o1 : Option Value}   (k : Q none (V, T)) : E x F d 61 19 [o0, o1] [] (V, T) Q := by
  exact e_vret zd61_19 zs61 k
theorem zd62_0 : zop 62 0 = some (.aload_n 0, 1) := by decide +kernel
theorem zd62_1 : zop 62 1 = some (.getfield 32, 3) := by decide +kernel
theorem zd62_4 : zop 62 4 = some (.iconst (-1), 1) := by decide +kernel
theorem zd62_5 : zop 62 5 = some (.if_icmp .ne 11, 3) := by decide +kernel
theorem zd62_8 : zop 62 8 = some (.aload_n 0, 1) := by decide +kernel
theorem zd62_9 : zop 62 9 = some (.aload_n 0, 1) := by decide +kernel
theorem zd62_10 : zop 62 10 = some (.getfield 82, 3) := by decide +kernel
theorem zd62_13 : zop 62 13 = some (.putfield 32, 3) := by decide +kernel
theorem zd62_16 : zop 62 16 = some (.aload_n 0, 1) := by decide +kernel
theorem zd62_17 : zop 62 17 = some (.iconst 1, 1) := by decide +kernel
theorem zd62_18 : zop 62 18 = some (.putfield 54, 3) := by decide +kernel
theorem zd62_21 : zop 62 21 = some (.return_, 1) := by decide +kernel
theorem b62_0 {x : zXs} {F : zF} (hF : zSh F) {d : Nat} {V : Nat → Nat → Int32} {T : Nat → Nat → Int64} {Q : Option Value → zG → Prop}    (kt : ¬ (V 45 8) = (Int32.ofInt (-1)) → E x F d 62 16 [some (.ref 45)] [] (V, T) Q) (kf : ¬ (¬ (V 45 8) = (Int32.ofInt (-1))) → E x F d 62 8 [some (.ref 45)] [] (V, T) Q) : E x F d 62 0 [some (.ref 45)] [] (V, T) Q := by
  refine e_aload_n zd62_0 rfl rfl ?_
  refine e_getI zd62_1 (own := 5) (ci := 5) (kf := 8) (w := 257) (by decide +kernel) (by decide +kernel) (zsh_at hF rfl).1 (by decide +kernel) rfl ?_
  refine e_iconst zd62_4 ?_
  exact e_icmp_ne zd62_5 (tg := 16) rfl kt kf
theorem b62_8 {x : zXs} {F : zF} (hF : zSh F) {d : Nat} {V : Nat → Nat → Int32} {T : Nat → Nat → Int64} {Q : Option Value → zG → Prop}    (k : E x F d 62 16 [some (.ref 45)] [] (zu V 45 8 (V 45 5), T) Q) : E x F d 62 8 [some (.ref 45)] [] (V, T) Q := by
  refine e_aload_n zd62_8 rfl rfl ?_
  refine e_aload_n zd62_9 rfl rfl ?_
  refine e_getI zd62_10 (own := 5) (ci := 5) (kf := 5) (w := 254) (by decide +kernel) (by decide +kernel) (zsh_at hF rfl).1 (by decide +kernel) rfl ?_
  refine e_putI zd62_13 (own := 5) (ci := 5) (kf := 8) (w := 257) (by decide +kernel) (by decide +kernel) (zsh_at hF rfl).1 (by decide +kernel) rfl ?_
  exact k
theorem b62_16 {x : zXs} {F : zF} (hF : zSh F) {d : Nat} {V : Nat → Nat → Int32} {T : Nat → Nat → Int64} {Q : Option Value → zG → Prop}    (k : Q none (zu V 45 3 (Int32.ofInt 1), T)) : E x F d 62 16 [some (.ref 45)] [] (V, T) Q := by
  refine e_aload_n zd62_16 rfl rfl ?_
  refine e_iconst zd62_17 ?_
  refine e_putI zd62_18 (own := 5) (ci := 5) (kf := 3) (w := 252) (by decide +kernel) (by decide +kernel) (zsh_at hF rfl).1 (by decide +kernel) rfl ?_
  exact e_vret zd62_21 zs62 k
theorem zd63_0 : zop 63 0 = some (.aload_n 0, 1) := by decide +kernel
theorem zd63_1 : zop 63 1 = some (.invokevirtual 51, 3) := by decide +kernel
theorem zd63_4 : zop 63 4 = some (.iconst 0, 1) := by decide +kernel
theorem zd63_5 : zop 63 5 = some (.istore_n 1, 1) := by decide +kernel
theorem zd63_6 : zop 63 6 = some (.iload_n 1, 1) := by decide +kernel
theorem zd63_7 : zop 63 7 = some (.sipush 160, 3) := by decide +kernel
theorem zd63_10 : zop 63 10 = some (.if_icmp .ge 35, 3) := by decide +kernel
theorem zd63_13 : zop 63 13 = some (.aload_n 0, 1) := by decide +kernel
theorem zd63_14 : zop 63 14 = some (.getfield 54, 3) := by decide +kernel
theorem zd63_17 : zop 63 17 = some (.bipush 7, 2) := by decide +kernel
theorem zd63_19 : zop 63 19 = some (.if_icmp .ne 26, 3) := by decide +kernel
theorem zd63_22 : zop 63 22 = some (.aload_n 0, 1) := by decide +kernel
theorem zd63_23 : zop 63 23 = some (.invokevirtual 38, 3) := by decide +kernel
theorem zd63_26 : zop 63 26 = some (.aload_n 0, 1) := by decide +kernel
theorem zd63_27 : zop 63 27 = some (.invokevirtual 51, 3) := by decide +kernel
theorem zd63_30 : zop 63 30 = some (.aload_n 0, 1) := by decide +kernel
theorem zd63_31 : zop 63 31 = some (.getfield 18, 3) := by decide +kernel
theorem zd63_34 : zop 63 34 = some (.bipush 8, 2) := by decide +kernel
theorem zd63_36 : zop 63 36 = some (.invokevirtual 57, 3) := by decide +kernel
theorem zd63_39 : zop 63 39 = some (.iinc 1 1, 3) := by decide +kernel
theorem zd63_42 : zop 63 42 = some (.goto (-36), 3) := by decide +kernel
theorem zd63_45 : zop 63 45 = some (.return_, 1) := by decide +kernel
theorem b63_0 {x : zXs} {F : zF} (hF : zSh F) {d : Nat} {V : Nat → Nat → Int32} {T : Nat → Nat → Int64} {Q : Option Value → zG → Prop} {o1 : Option Value}   (k : E x F d 64 0 [some (.ref 45), none] [] (V, T) (fun r G' => E x F (d + 1) 63 4 [some (.ref 45), o1] (r.toList ++ []) G' Q)) : E x F (d + 1) 63 0 [some (.ref 45), o1] [] (V, T) Q := by
  refine e_aload_n zd63_0 rfl rfl ?_
  exact e_callV zd63_1 (own := 5) (nest := false) (w := 572) (by decide +kernel) (by decide +kernel) zs64 (as := []) (rest := []) rfl rfl (zsh_at hF rfl).1 (by omega) (Nat.le_of_ble_eq_true rfl) rfl rfl rfl (by omega) k
theorem b63_4 {x : zXs} {F : zF} (hF : zSh F) {d : Nat} {V : Nat → Nat → Int32} {T : Nat → Nat → Int64} {Q : Option Value → zG → Prop} {o0 : Option Value} {o1 : Option Value}   (k : E x F d 63 6 [o0, some (.int (Int32.ofInt 0))] [] (V, T) Q) : E x F d 63 4 [o0, o1] [] (V, T) Q := by
  refine e_iconst zd63_4 ?_
  refine e_istore_n zd63_5 (by decide +kernel) (Nat.le_of_ble_eq_true rfl) ?_
  exact k
theorem b63_6 {x : zXs} {F : zF} (hF : zSh F) {d : Nat} {V : Nat → Nat → Int32} {T : Nat → Nat → Int64} {Q : Option Value → zG → Prop} {o0 : Option Value} {l1 : Int32}   (kt : (Int32.ofInt 160) ≤ l1 → E x F d 63 45 [o0, some (.int l1)] [] (V, T) Q) (kf : ¬ ((Int32.ofInt 160) ≤ l1) → E x F d 63 13 [o0, some (.int l1)] [] (V, T) Q) : E x F d 63 6 [o0, some (.int l1)] [] (V, T) Q := by
  refine e_iload_n zd63_6 rfl ?_
  refine e_sipush zd63_7 (v := Int32.ofInt 160) (by decide +kernel) ?_
  exact e_icmp_ge zd63_10 (tg := 45) rfl kt kf
theorem b63_13 {x : zXs} {F : zF} (hF : zSh F) {d : Nat} {V : Nat → Nat → Int32} {T : Nat → Nat → Int64} {Q : Option Value → zG → Prop} {o1 : Option Value}   (kt : ¬ (V 45 3) = (Int32.ofInt 7) → E x F d 63 45 [some (.ref 45), o1] [] (V, T) Q) (kf : ¬ (¬ (V 45 3) = (Int32.ofInt 7)) → E x F d 63 22 [some (.ref 45), o1] [] (V, T) Q) : E x F d 63 13 [some (.ref 45), o1] [] (V, T) Q := by
  refine e_aload_n zd63_13 rfl rfl ?_
  refine e_getI zd63_14 (own := 5) (ci := 5) (kf := 3) (w := 252) (by decide +kernel) (by decide +kernel) (zsh_at hF rfl).1 (by decide +kernel) rfl ?_
  refine e_bipush zd63_17 (v := Int32.ofInt 7) (by decide +kernel) ?_
  exact e_icmp_ne zd63_19 (tg := 45) rfl kt kf
theorem b63_22 {x : zXs} {F : zF} (hF : zSh F) {d : Nat} {V : Nat → Nat → Int32} {T : Nat → Nat → Int64} {Q : Option Value → zG → Prop} {o1 : Option Value}   (k : E x F d 46 0 [some (.ref 45)] [] (V, T) (fun r G' => E x F (d + 1) 63 26 [some (.ref 45), o1] (r.toList ++ []) G' Q)) : E x F (d + 1) 63 22 [some (.ref 45), o1] [] (V, T) Q := by
  refine e_aload_n zd63_22 rfl rfl ?_
  exact e_callV zd63_23 (own := 5) (nest := false) (w := 472) (by decide +kernel) (by decide +kernel) zs46 (as := []) (rest := []) rfl rfl (zsh_at hF rfl).1 (by omega) (Nat.le_of_ble_eq_true rfl) rfl rfl rfl (by omega) k
theorem b63_26 {x : zXs} {F : zF} (hF : zSh F) {d : Nat} {V : Nat → Nat → Int32} {T : Nat → Nat → Int64} {Q : Option Value → zG → Prop} {o1 : Option Value}   (k : E x F d 64 0 [some (.ref 45), none] [] (V, T) (fun r G' => E x F (d + 1) 63 30 [some (.ref 45), o1] (r.toList ++ []) G' Q)) : E x F (d + 1) 63 26 [some (.ref 45), o1] [] (V, T) Q := by
  refine e_aload_n zd63_26 rfl rfl ?_
  exact e_callV zd63_27 (own := 5) (nest := false) (w := 572) (by decide +kernel) (by decide +kernel) zs64 (as := []) (rest := []) rfl rfl (zsh_at hF rfl).1 (by omega) (Nat.le_of_ble_eq_true rfl) rfl rfl rfl (by omega) k
theorem b63_30 {x : zXs} {F : zF} (hF : zSh F) {d : Nat} {V : Nat → Nat → Int32} {T : Nat → Nat → Int64} {Q : Option Value → zG → Prop} {o1 : Option Value}   (k : E x F d 5 0 [some (.ref 47), some (.int (Int32.ofInt 8))] [] (V, T) (fun r G' => E x F (d + 1) 63 39 [some (.ref 45), o1] (r.toList ++ []) G' Q)) : E x F (d + 1) 63 30 [some (.ref 45), o1] [] (V, T) Q := by
  refine e_aload_n zd63_30 rfl rfl ?_
  refine e_getO zd63_31 (own := 5) (ci := 5) (kf := 2) (w := 250) (by decide +kernel) (by decide +kernel) (zsh_at hF rfl).1 (by decide +kernel) rfl (zrf_at hF (i := 48) rfl) ?_
  refine e_bipush zd63_34 (v := Int32.ofInt 8) (by decide +kernel) ?_
  exact e_callV zd63_36 (own := 5) (nest := false) (w := 584) (by decide +kernel) (by decide +kernel) zs5 (as := [.int (Int32.ofInt 8)]) (rest := []) rfl rfl (zsh_at hF rfl).1 (by omega) (Nat.le_of_ble_eq_true rfl) rfl rfl rfl (by omega) k
theorem b63_39 {x : zXs} {F : zF} (hF : zSh F) {d : Nat} {V : Nat → Nat → Int32} {T : Nat → Nat → Int64} {Q : Option Value → zG → Prop} {o0 : Option Value} {l1 : Int32}   (k : E x F d 63 6 [o0, some (.int (l1 + Int32.ofInt 1))] [] (V, T) Q) : E x F d 63 39 [o0, some (.int l1)] [] (V, T) Q := by
  refine e_iinc zd63_39 rfl (by decide +kernel) ?_
  exact e_goto zd63_42 (tg := 6) rfl k
theorem b63_45 {x : zXs} {F : zF} (hF : zSh F) {d : Nat} {V : Nat → Nat → Int32} {T : Nat → Nat → Int64} {Q : Option Value → zG → Prop} {o0 : Option Value} {o1 : Option Value}   (k : Q none (V, T)) : E x F d 63 45 [o0, o1] [] (V, T) Q := by
  exact e_vret zd63_45 zs63 k
theorem zd64_0 : zop 64 0 = some (.aload_n 0, 1) := by decide +kernel
theorem zd64_1 : zop 64 1 = some (.invokevirtual 60, 3) := by decide +kernel
theorem zd64_4 : zop 64 4 = some (.iconst 0, 1) := by decide +kernel
theorem zd64_5 : zop 64 5 = some (.istore_n 1, 1) := by decide +kernel
theorem zd64_6 : zop 64 6 = some (.iload_n 1, 1) := by decide +kernel
theorem zd64_7 : zop 64 7 = some (.sipush 160, 3) := by decide +kernel
theorem zd64_10 : zop 64 10 = some (.if_icmp .ge 35, 3) := by decide +kernel
theorem zd64_13 : zop 64 13 = some (.aload_n 0, 1) := by decide +kernel
theorem zd64_14 : zop 64 14 = some (.getfield 54, 3) := by decide +kernel
theorem zd64_17 : zop 64 17 = some (.bipush 8, 2) := by decide +kernel
theorem zd64_19 : zop 64 19 = some (.if_icmp .ne 26, 3) := by decide +kernel
theorem zd64_22 : zop 64 22 = some (.aload_n 0, 1) := by decide +kernel
theorem zd64_23 : zop 64 23 = some (.invokevirtual 38, 3) := by decide +kernel
theorem zd64_26 : zop 64 26 = some (.aload_n 0, 1) := by decide +kernel
theorem zd64_27 : zop 64 27 = some (.invokevirtual 60, 3) := by decide +kernel
theorem zd64_30 : zop 64 30 = some (.aload_n 0, 1) := by decide +kernel
theorem zd64_31 : zop 64 31 = some (.getfield 18, 3) := by decide +kernel
theorem zd64_34 : zop 64 34 = some (.bipush 9, 2) := by decide +kernel
theorem zd64_36 : zop 64 36 = some (.invokevirtual 57, 3) := by decide +kernel
theorem zd64_39 : zop 64 39 = some (.iinc 1 1, 3) := by decide +kernel
theorem zd64_42 : zop 64 42 = some (.goto (-36), 3) := by decide +kernel
theorem zd64_45 : zop 64 45 = some (.return_, 1) := by decide +kernel
theorem b64_0 {x : zXs} {F : zF} (hF : zSh F) {d : Nat} {V : Nat → Nat → Int32} {T : Nat → Nat → Int64} {Q : Option Value → zG → Prop} {o1 : Option Value}   (k : E x F d 65 0 [some (.ref 45), none] [] (V, T) (fun r G' => E x F (d + 1) 64 4 [some (.ref 45), o1] (r.toList ++ []) G' Q)) : E x F (d + 1) 64 0 [some (.ref 45), o1] [] (V, T) Q := by
  refine e_aload_n zd64_0 rfl rfl ?_
  exact e_callV zd64_1 (own := 5) (nest := false) (w := 576) (by decide +kernel) (by decide +kernel) zs65 (as := []) (rest := []) rfl rfl (zsh_at hF rfl).1 (by omega) (Nat.le_of_ble_eq_true rfl) rfl rfl rfl (by omega) k
theorem b64_4 {x : zXs} {F : zF} (hF : zSh F) {d : Nat} {V : Nat → Nat → Int32} {T : Nat → Nat → Int64} {Q : Option Value → zG → Prop} {o0 : Option Value} {o1 : Option Value}   (k : E x F d 64 6 [o0, some (.int (Int32.ofInt 0))] [] (V, T) Q) : E x F d 64 4 [o0, o1] [] (V, T) Q := by
  refine e_iconst zd64_4 ?_
  refine e_istore_n zd64_5 (by decide +kernel) (Nat.le_of_ble_eq_true rfl) ?_
  exact k
theorem b64_6 {x : zXs} {F : zF} (hF : zSh F) {d : Nat} {V : Nat → Nat → Int32} {T : Nat → Nat → Int64} {Q : Option Value → zG → Prop} {o0 : Option Value} {l1 : Int32}   (kt : (Int32.ofInt 160) ≤ l1 → E x F d 64 45 [o0, some (.int l1)] [] (V, T) Q) (kf : ¬ ((Int32.ofInt 160) ≤ l1) → E x F d 64 13 [o0, some (.int l1)] [] (V, T) Q) : E x F d 64 6 [o0, some (.int l1)] [] (V, T) Q := by
  refine e_iload_n zd64_6 rfl ?_
  refine e_sipush zd64_7 (v := Int32.ofInt 160) (by decide +kernel) ?_
  exact e_icmp_ge zd64_10 (tg := 45) rfl kt kf
theorem b64_13 {x : zXs} {F : zF} (hF : zSh F) {d : Nat} {V : Nat → Nat → Int32} {T : Nat → Nat → Int64} {Q : Option Value → zG → Prop} {o1 : Option Value}   (kt : ¬ (V 45 3) = (Int32.ofInt 8) → E x F d 64 45 [some (.ref 45), o1] [] (V, T) Q) (kf : ¬ (¬ (V 45 3) = (Int32.ofInt 8)) → E x F d 64 22 [some (.ref 45), o1] [] (V, T) Q) : E x F d 64 13 [some (.ref 45), o1] [] (V, T) Q := by
  refine e_aload_n zd64_13 rfl rfl ?_
  refine e_getI zd64_14 (own := 5) (ci := 5) (kf := 3) (w := 252) (by decide +kernel) (by decide +kernel) (zsh_at hF rfl).1 (by decide +kernel) rfl ?_
  refine e_bipush zd64_17 (v := Int32.ofInt 8) (by decide +kernel) ?_
  exact e_icmp_ne zd64_19 (tg := 45) rfl kt kf
theorem b64_22 {x : zXs} {F : zF} (hF : zSh F) {d : Nat} {V : Nat → Nat → Int32} {T : Nat → Nat → Int64} {Q : Option Value → zG → Prop} {o1 : Option Value}   (k : E x F d 46 0 [some (.ref 45)] [] (V, T) (fun r G' => E x F (d + 1) 64 26 [some (.ref 45), o1] (r.toList ++ []) G' Q)) : E x F (d + 1) 64 22 [some (.ref 45), o1] [] (V, T) Q := by
  refine e_aload_n zd64_22 rfl rfl ?_
  exact e_callV zd64_23 (own := 5) (nest := false) (w := 472) (by decide +kernel) (by decide +kernel) zs46 (as := []) (rest := []) rfl rfl (zsh_at hF rfl).1 (by omega) (Nat.le_of_ble_eq_true rfl) rfl rfl rfl (by omega) k
theorem b64_26 {x : zXs} {F : zF} (hF : zSh F) {d : Nat} {V : Nat → Nat → Int32} {T : Nat → Nat → Int64} {Q : Option Value → zG → Prop} {o1 : Option Value}   (k : E x F d 65 0 [some (.ref 45), none] [] (V, T) (fun r G' => E x F (d + 1) 64 30 [some (.ref 45), o1] (r.toList ++ []) G' Q)) : E x F (d + 1) 64 26 [some (.ref 45), o1] [] (V, T) Q := by
  refine e_aload_n zd64_26 rfl rfl ?_
  exact e_callV zd64_27 (own := 5) (nest := false) (w := 576) (by decide +kernel) (by decide +kernel) zs65 (as := []) (rest := []) rfl rfl (zsh_at hF rfl).1 (by omega) (Nat.le_of_ble_eq_true rfl) rfl rfl rfl (by omega) k
theorem b64_30 {x : zXs} {F : zF} (hF : zSh F) {d : Nat} {V : Nat → Nat → Int32} {T : Nat → Nat → Int64} {Q : Option Value → zG → Prop} {o1 : Option Value}   (k : E x F d 5 0 [some (.ref 47), some (.int (Int32.ofInt 9))] [] (V, T) (fun r G' => E x F (d + 1) 64 39 [some (.ref 45), o1] (r.toList ++ []) G' Q)) : E x F (d + 1) 64 30 [some (.ref 45), o1] [] (V, T) Q := by
  refine e_aload_n zd64_30 rfl rfl ?_
  refine e_getO zd64_31 (own := 5) (ci := 5) (kf := 2) (w := 250) (by decide +kernel) (by decide +kernel) (zsh_at hF rfl).1 (by decide +kernel) rfl (zrf_at hF (i := 48) rfl) ?_
  refine e_bipush zd64_34 (v := Int32.ofInt 9) (by decide +kernel) ?_
  exact e_callV zd64_36 (own := 5) (nest := false) (w := 584) (by decide +kernel) (by decide +kernel) zs5 (as := [.int (Int32.ofInt 9)]) (rest := []) rfl rfl (zsh_at hF rfl).1 (by omega) (Nat.le_of_ble_eq_true rfl) rfl rfl rfl (by omega) k
theorem b64_39 {x : zXs} {F : zF} (hF : zSh F) {d : Nat} {V : Nat → Nat → Int32} {T : Nat → Nat → Int64} {Q : Option Value → zG → Prop} {o0 : Option Value} {l1 : Int32}   (k : E x F d 64 6 [o0, some (.int (l1 + Int32.ofInt 1))] [] (V, T) Q) : E x F d 64 39 [o0, some (.int l1)] [] (V, T) Q := by
  refine e_iinc zd64_39 rfl (by decide +kernel) ?_
  exact e_goto zd64_42 (tg := 6) rfl k
theorem b64_45 {x : zXs} {F : zF} (hF : zSh F) {d : Nat} {V : Nat → Nat → Int32} {T : Nat → Nat → Int64} {Q : Option Value → zG → Prop} {o0 : Option Value} {o1 : Option Value}   (k : Q none (V, T)) : E x F d 64 45 [o0, o1] [] (V, T) Q := by
  exact e_vret zd64_45 zs64 k
theorem zd65_0 : zop 65 0 = some (.aload_n 0, 1) := by decide +kernel
theorem zd65_1 : zop 65 1 = some (.getfield 54, 3) := by decide +kernel
theorem zd65_4 : zop 65 4 = some (.bipush 9, 2) := by decide +kernel
theorem zd65_6 : zop 65 6 = some (.if_icmp .ne 34, 3) := by decide +kernel
theorem zd65_9 : zop 65 9 = some (.aload_n 0, 1) := by decide +kernel
theorem zd65_10 : zop 65 10 = some (.invokevirtual 63, 3) := by decide +kernel
theorem zd65_13 : zop 65 13 = some (.ifCond .eq 26, 3) := by decide +kernel
theorem zd65_16 : zop 65 16 = some (.aload_n 0, 1) := by decide +kernel
theorem zd65_17 : zop 65 17 = some (.invokevirtual 60, 3) := by decide +kernel
theorem zd65_20 : zop 65 20 = some (.aload_n 0, 1) := by decide +kernel
theorem zd65_21 : zop 65 21 = some (.getfield 18, 3) := by decide +kernel
theorem zd65_24 : zop 65 24 = some (.bipush 7, 2) := by decide +kernel
theorem zd65_26 : zop 65 26 = some (.invokevirtual 57, 3) := by decide +kernel
theorem zd65_29 : zop 65 29 = some (.aload_n 0, 1) := by decide +kernel
theorem zd65_30 : zop 65 30 = some (.dup, 1) := by decide +kernel
theorem zd65_31 : zop 65 31 = some (.getfield 29, 3) := by decide +kernel
theorem zd65_34 : zop 65 34 = some (.iconst 1, 1) := by decide +kernel
theorem zd65_35 : zop 65 35 = some (.isub, 1) := by decide +kernel
theorem zd65_36 : zop 65 36 = some (.putfield 29, 3) := by decide +kernel
theorem zd65_39 : zop 65 39 = some (.return_, 1) := by decide +kernel
theorem zd65_40 : zop 65 40 = some (.aload_n 0, 1) := by decide +kernel
theorem zd65_41 : zop 65 41 = some (.invokevirtual 67, 3) := by decide +kernel
theorem zd65_44 : zop 65 44 = some (.aload_n 0, 1) := by decide +kernel
theorem zd65_45 : zop 65 45 = some (.getfield 54, 3) := by decide +kernel
theorem zd65_48 : zop 65 48 = some (.bipush 60, 2) := by decide +kernel
theorem zd65_50 : zop 65 50 = some (.if_icmp .eq 12, 3) := by decide +kernel
theorem zd65_53 : zop 65 53 = some (.aload_n 0, 1) := by decide +kernel
theorem zd65_54 : zop 65 54 = some (.getfield 54, 3) := by decide +kernel
theorem zd65_57 : zop 65 57 = some (.bipush 61, 2) := by decide +kernel
theorem zd65_59 : zop 65 59 = some (.if_icmp .ne 36, 3) := by decide +kernel
theorem zd65_62 : zop 65 62 = some (.aload_n 0, 1) := by decide +kernel
theorem zd65_63 : zop 65 63 = some (.getfield 54, 3) := by decide +kernel
theorem zd65_66 : zop 65 66 = some (.bipush 60, 2) := by decide +kernel
theorem zd65_68 : zop 65 68 = some (.if_icmp .ne 8, 3) := by decide +kernel
theorem zd65_71 : zop 65 71 = some (.bipush 10, 2) := by decide +kernel
theorem zd65_73 : zop 65 73 = some (.goto 5, 3) := by decide +kernel
theorem zd65_76 : zop 65 76 = some (.bipush 11, 2) := by decide +kernel
theorem zd65_78 : zop 65 78 = some (.istore_n 1, 1) := by decide +kernel
theorem zd65_79 : zop 65 79 = some (.aload_n 0, 1) := by decide +kernel
theorem zd65_80 : zop 65 80 = some (.invokevirtual 38, 3) := by decide +kernel
theorem zd65_83 : zop 65 83 = some (.aload_n 0, 1) := by decide +kernel
theorem zd65_84 : zop 65 84 = some (.invokevirtual 67, 3) := by decide +kernel
theorem zd65_87 : zop 65 87 = some (.aload_n 0, 1) := by decide +kernel
theorem zd65_88 : zop 65 88 = some (.getfield 18, 3) := by decide +kernel
theorem zd65_91 : zop 65 91 = some (.iload_n 1, 1) := by decide +kernel
theorem zd65_92 : zop 65 92 = some (.invokevirtual 57, 3) := by decide +kernel
theorem zd65_95 : zop 65 95 = some (.return_, 1) := by decide +kernel
theorem b65_0 {x : zXs} {F : zF} (hF : zSh F) {d : Nat} {V : Nat → Nat → Int32} {T : Nat → Nat → Int64} {Q : Option Value → zG → Prop} {o1 : Option Value}   (kt : ¬ (V 45 3) = (Int32.ofInt 9) → E x F d 65 40 [some (.ref 45), o1] [] (V, T) Q) (kf : ¬ (¬ (V 45 3) = (Int32.ofInt 9)) → E x F d 65 9 [some (.ref 45), o1] [] (V, T) Q) : E x F d 65 0 [some (.ref 45), o1] [] (V, T) Q := by
  refine e_aload_n zd65_0 rfl rfl ?_
  refine e_getI zd65_1 (own := 5) (ci := 5) (kf := 3) (w := 252) (by decide +kernel) (by decide +kernel) (zsh_at hF rfl).1 (by decide +kernel) rfl ?_
  refine e_bipush zd65_4 (v := Int32.ofInt 9) (by decide +kernel) ?_
  exact e_icmp_ne zd65_6 (tg := 40) rfl kt kf
theorem b65_9 {x : zXs} {F : zF} (hF : zSh F) {d : Nat} {V : Nat → Nat → Int32} {T : Nat → Nat → Int64} {Q : Option Value → zG → Prop} {o1 : Option Value}   (k : E x F d 66 0 [some (.ref 45)] [] (V, T) (fun r G' => E x F (d + 1) 65 13 [some (.ref 45), o1] (r.toList ++ []) G' Q)) : E x F (d + 1) 65 9 [some (.ref 45), o1] [] (V, T) Q := by
  refine e_aload_n zd65_9 rfl rfl ?_
  exact e_callV zd65_10 (own := 5) (nest := false) (w := 580) (by decide +kernel) (by decide +kernel) zs66 (as := []) (rest := []) rfl rfl (zsh_at hF rfl).1 (by omega) (Nat.le_of_ble_eq_true rfl) rfl rfl rfl (by omega) k
theorem b65_13 {x : zXs} {F : zF} (hF : zSh F) {d : Nat} {V : Nat → Nat → Int32} {T : Nat → Nat → Int64} {Q : Option Value → zG → Prop} {o0 : Option Value} {o1 : Option Value} {s0 : Int32}   (kt : s0 = 0 → E x F d 65 39 [o0, o1] [] (V, T) Q) (kf : ¬ (s0 = 0) → E x F d 65 16 [o0, o1] [] (V, T) Q) : E x F d 65 13 [o0, o1] [.int s0] (V, T) Q := by
  exact e_if_eq zd65_13 (tg := 39) rfl kt kf
theorem b65_16 {x : zXs} {F : zF} (hF : zSh F) {d : Nat} {V : Nat → Nat → Int32} {T : Nat → Nat → Int64} {Q : Option Value → zG → Prop} {o1 : Option Value}   (k : E x F d 65 0 [some (.ref 45), none] [] (V, T) (fun r G' => E x F (d + 1) 65 20 [some (.ref 45), o1] (r.toList ++ []) G' Q)) : E x F (d + 1) 65 16 [some (.ref 45), o1] [] (V, T) Q := by
  refine e_aload_n zd65_16 rfl rfl ?_
  exact e_callV zd65_17 (own := 5) (nest := false) (w := 576) (by decide +kernel) (by decide +kernel) zs65 (as := []) (rest := []) rfl rfl (zsh_at hF rfl).1 (by omega) (Nat.le_of_ble_eq_true rfl) rfl rfl rfl (by omega) k
theorem b65_20 {x : zXs} {F : zF} (hF : zSh F) {d : Nat} {V : Nat → Nat → Int32} {T : Nat → Nat → Int64} {Q : Option Value → zG → Prop} {o1 : Option Value}   (k : E x F d 5 0 [some (.ref 47), some (.int (Int32.ofInt 7))] [] (V, T) (fun r G' => E x F (d + 1) 65 29 [some (.ref 45), o1] (r.toList ++ []) G' Q)) : E x F (d + 1) 65 20 [some (.ref 45), o1] [] (V, T) Q := by
  refine e_aload_n zd65_20 rfl rfl ?_
  refine e_getO zd65_21 (own := 5) (ci := 5) (kf := 2) (w := 250) (by decide +kernel) (by decide +kernel) (zsh_at hF rfl).1 (by decide +kernel) rfl (zrf_at hF (i := 48) rfl) ?_
  refine e_bipush zd65_24 (v := Int32.ofInt 7) (by decide +kernel) ?_
  exact e_callV zd65_26 (own := 5) (nest := false) (w := 584) (by decide +kernel) (by decide +kernel) zs5 (as := [.int (Int32.ofInt 7)]) (rest := []) rfl rfl (zsh_at hF rfl).1 (by omega) (Nat.le_of_ble_eq_true rfl) rfl rfl rfl (by omega) k
theorem b65_29 {x : zXs} {F : zF} (hF : zSh F) {d : Nat} {V : Nat → Nat → Int32} {T : Nat → Nat → Int64} {Q : Option Value → zG → Prop} {o1 : Option Value}   (k : E x F d 65 39 [some (.ref 45), o1] [] (zu V 45 7 ((V 45 7) - (Int32.ofInt 1)), T) Q) : E x F d 65 29 [some (.ref 45), o1] [] (V, T) Q := by
  refine e_aload_n zd65_29 rfl rfl ?_
  refine e_dup zd65_30 rfl ?_
  refine e_getI zd65_31 (own := 5) (ci := 5) (kf := 7) (w := 256) (by decide +kernel) (by decide +kernel) (zsh_at hF rfl).1 (by decide +kernel) rfl ?_
  refine e_iconst zd65_34 ?_
  refine e_isub zd65_35 ?_
  refine e_putI zd65_36 (own := 5) (ci := 5) (kf := 7) (w := 256) (by decide +kernel) (by decide +kernel) (zsh_at hF rfl).1 (by decide +kernel) rfl ?_
  exact k
theorem b65_39 {x : zXs} {F : zF} (hF : zSh F) {d : Nat} {V : Nat → Nat → Int32} {T : Nat → Nat → Int64} {Q : Option Value → zG → Prop} {o0 : Option Value} {o1 : Option Value}   (k : Q none (V, T)) : E x F d 65 39 [o0, o1] [] (V, T) Q := by
  exact e_vret zd65_39 zs65 k
theorem b65_40 {x : zXs} {F : zF} (hF : zSh F) {d : Nat} {V : Nat → Nat → Int32} {T : Nat → Nat → Int64} {Q : Option Value → zG → Prop} {o1 : Option Value}   (k : E x F d 67 0 [some (.ref 45), none, none] [] (V, T) (fun r G' => E x F (d + 1) 65 44 [some (.ref 45), o1] (r.toList ++ []) G' Q)) : E x F (d + 1) 65 40 [some (.ref 45), o1] [] (V, T) Q := by
  refine e_aload_n zd65_40 rfl rfl ?_
  exact e_callV zd65_41 (own := 5) (nest := false) (w := 585) (by decide +kernel) (by decide +kernel) zs67 (as := []) (rest := []) rfl rfl (zsh_at hF rfl).1 (by omega) (Nat.le_of_ble_eq_true rfl) rfl rfl rfl (by omega) k
theorem b65_44 {x : zXs} {F : zF} (hF : zSh F) {d : Nat} {V : Nat → Nat → Int32} {T : Nat → Nat → Int64} {Q : Option Value → zG → Prop} {o1 : Option Value}   (kt : (V 45 3) = (Int32.ofInt 60) → E x F d 65 62 [some (.ref 45), o1] [] (V, T) Q) (kf : ¬ ((V 45 3) = (Int32.ofInt 60)) → E x F d 65 53 [some (.ref 45), o1] [] (V, T) Q) : E x F d 65 44 [some (.ref 45), o1] [] (V, T) Q := by
  refine e_aload_n zd65_44 rfl rfl ?_
  refine e_getI zd65_45 (own := 5) (ci := 5) (kf := 3) (w := 252) (by decide +kernel) (by decide +kernel) (zsh_at hF rfl).1 (by decide +kernel) rfl ?_
  refine e_bipush zd65_48 (v := Int32.ofInt 60) (by decide +kernel) ?_
  exact e_icmp_eq zd65_50 (tg := 62) rfl kt kf
theorem b65_53 {x : zXs} {F : zF} (hF : zSh F) {d : Nat} {V : Nat → Nat → Int32} {T : Nat → Nat → Int64} {Q : Option Value → zG → Prop} {o1 : Option Value}   (kt : ¬ (V 45 3) = (Int32.ofInt 61) → E x F d 65 95 [some (.ref 45), o1] [] (V, T) Q) (kf : ¬ (¬ (V 45 3) = (Int32.ofInt 61)) → E x F d 65 62 [some (.ref 45), o1] [] (V, T) Q) : E x F d 65 53 [some (.ref 45), o1] [] (V, T) Q := by
  refine e_aload_n zd65_53 rfl rfl ?_
  refine e_getI zd65_54 (own := 5) (ci := 5) (kf := 3) (w := 252) (by decide +kernel) (by decide +kernel) (zsh_at hF rfl).1 (by decide +kernel) rfl ?_
  refine e_bipush zd65_57 (v := Int32.ofInt 61) (by decide +kernel) ?_
  exact e_icmp_ne zd65_59 (tg := 95) rfl kt kf
theorem b65_62 {x : zXs} {F : zF} (hF : zSh F) {d : Nat} {V : Nat → Nat → Int32} {T : Nat → Nat → Int64} {Q : Option Value → zG → Prop} {o1 : Option Value}   (kt : ¬ (V 45 3) = (Int32.ofInt 60) → E x F d 65 76 [some (.ref 45), o1] [] (V, T) Q) (kf : ¬ (¬ (V 45 3) = (Int32.ofInt 60)) → E x F d 65 71 [some (.ref 45), o1] [] (V, T) Q) : E x F d 65 62 [some (.ref 45), o1] [] (V, T) Q := by
  refine e_aload_n zd65_62 rfl rfl ?_
  refine e_getI zd65_63 (own := 5) (ci := 5) (kf := 3) (w := 252) (by decide +kernel) (by decide +kernel) (zsh_at hF rfl).1 (by decide +kernel) rfl ?_
  refine e_bipush zd65_66 (v := Int32.ofInt 60) (by decide +kernel) ?_
  exact e_icmp_ne zd65_68 (tg := 76) rfl kt kf
theorem b65_71 {x : zXs} {F : zF} (hF : zSh F) {d : Nat} {V : Nat → Nat → Int32} {T : Nat → Nat → Int64} {Q : Option Value → zG → Prop} {o0 : Option Value} {o1 : Option Value}   (k : E x F d 65 78 [o0, o1] [.int (Int32.ofInt 10)] (V, T) Q) : E x F d 65 71 [o0, o1] [] (V, T) Q := by
  refine e_bipush zd65_71 (v := Int32.ofInt 10) (by decide +kernel) ?_
  exact e_goto zd65_73 (tg := 78) rfl k
theorem b65_76 {x : zXs} {F : zF} (hF : zSh F) {d : Nat} {V : Nat → Nat → Int32} {T : Nat → Nat → Int64} {Q : Option Value → zG → Prop} {o0 : Option Value} {o1 : Option Value}   (k : E x F d 65 78 [o0, o1] [.int (Int32.ofInt 11)] (V, T) Q) : E x F d 65 76 [o0, o1] [] (V, T) Q := by
  refine e_bipush zd65_76 (v := Int32.ofInt 11) (by decide +kernel) ?_
  exact k
theorem b65_78 {x : zXs} {F : zF} (hF : zSh F) {d : Nat} {V : Nat → Nat → Int32} {T : Nat → Nat → Int64} {Q : Option Value → zG → Prop} {o1 : Option Value} {s0 : Int32}   (k : E x F d 46 0 [some (.ref 45)] [] (V, T) (fun r G' => E x F (d + 1) 65 83 [some (.ref 45), some (.int s0)] (r.toList ++ []) G' Q)) : E x F (d + 1) 65 78 [some (.ref 45), o1] [.int s0] (V, T) Q := by
  refine e_istore_n zd65_78 (by decide +kernel) (Nat.le_of_ble_eq_true rfl) ?_
  refine e_aload_n zd65_79 rfl rfl ?_
  exact e_callV zd65_80 (own := 5) (nest := false) (w := 472) (by decide +kernel) (by decide +kernel) zs46 (as := []) (rest := []) rfl rfl (zsh_at hF rfl).1 (by omega) (Nat.le_of_ble_eq_true rfl) rfl rfl rfl (by omega) k
theorem b65_83 {x : zXs} {F : zF} (hF : zSh F) {d : Nat} {V : Nat → Nat → Int32} {T : Nat → Nat → Int64} {Q : Option Value → zG → Prop} {o1 : Option Value}   (k : E x F d 67 0 [some (.ref 45), none, none] [] (V, T) (fun r G' => E x F (d + 1) 65 87 [some (.ref 45), o1] (r.toList ++ []) G' Q)) : E x F (d + 1) 65 83 [some (.ref 45), o1] [] (V, T) Q := by
  refine e_aload_n zd65_83 rfl rfl ?_
  exact e_callV zd65_84 (own := 5) (nest := false) (w := 585) (by decide +kernel) (by decide +kernel) zs67 (as := []) (rest := []) rfl rfl (zsh_at hF rfl).1 (by omega) (Nat.le_of_ble_eq_true rfl) rfl rfl rfl (by omega) k
theorem b65_87 {x : zXs} {F : zF} (hF : zSh F) {d : Nat} {V : Nat → Nat → Int32} {T : Nat → Nat → Int64} {Q : Option Value → zG → Prop} {l1 : Int32}   (k : E x F d 5 0 [some (.ref 47), some (.int l1)] [] (V, T) (fun r G' => E x F (d + 1) 65 95 [some (.ref 45), some (.int l1)] (r.toList ++ []) G' Q)) : E x F (d + 1) 65 87 [some (.ref 45), some (.int l1)] [] (V, T) Q := by
  refine e_aload_n zd65_87 rfl rfl ?_
  refine e_getO zd65_88 (own := 5) (ci := 5) (kf := 2) (w := 250) (by decide +kernel) (by decide +kernel) (zsh_at hF rfl).1 (by decide +kernel) rfl (zrf_at hF (i := 48) rfl) ?_
  refine e_iload_n zd65_91 rfl ?_
  exact e_callV zd65_92 (own := 5) (nest := false) (w := 584) (by decide +kernel) (by decide +kernel) zs5 (as := [.int l1]) (rest := []) rfl rfl (zsh_at hF rfl).1 (by omega) (Nat.le_of_ble_eq_true rfl) rfl rfl rfl (by omega) k
theorem b65_95 {x : zXs} {F : zF} (hF : zSh F) {d : Nat} {V : Nat → Nat → Int32} {T : Nat → Nat → Int64} {Q : Option Value → zG → Prop} {o0 : Option Value} {o1 : Option Value}   (k : Q none (V, T)) : E x F d 65 95 [o0, o1] [] (V, T) Q := by
  exact e_vret zd65_95 zs65 k
theorem zd66_0 : zop 66 0 = some (.aload_n 0, 1) := by decide +kernel
theorem zd66_1 : zop 66 1 = some (.getfield 29, 3) := by decide +kernel
theorem zd66_4 : zop 66 4 = some (.iconst 5, 1) := by decide +kernel
theorem zd66_5 : zop 66 5 = some (.if_icmp .lt 9, 3) := by decide +kernel
theorem zd66_8 : zop 66 8 = some (.aload_n 0, 1) := by decide +kernel
theorem zd66_9 : zop 66 9 = some (.invokevirtual 79, 3) := by decide +kernel
theorem zd66_12 : zop 66 12 = some (.iconst 0, 1) := by decide +kernel
theorem zd66_13 : zop 66 13 = some (.ireturn, 1) := by decide +kernel
theorem zd66_14 : zop 66 14 = some (.aload_n 0, 1) := by decide +kernel
theorem zd66_15 : zop 66 15 = some (.dup, 1) := by decide +kernel
theorem zd66_16 : zop 66 16 = some (.getfield 29, 3) := by decide +kernel
theorem zd66_19 : zop 66 19 = some (.iconst 1, 1) := by decide +kernel
theorem zd66_20 : zop 66 20 = some (.iadd, 1) := by decide +kernel
theorem zd66_21 : zop 66 21 = some (.putfield 29, 3) := by decide +kernel
theorem zd66_24 : zop 66 24 = some (.aload_n 0, 1) := by decide +kernel
theorem zd66_25 : zop 66 25 = some (.invokevirtual 38, 3) := by decide +kernel
theorem zd66_28 : zop 66 28 = some (.iconst 1, 1) := by decide +kernel
theorem zd66_29 : zop 66 29 = some (.ireturn, 1) := by decide +kernel
theorem b66_0 {x : zXs} {F : zF} (hF : zSh F) {d : Nat} {V : Nat → Nat → Int32} {T : Nat → Nat → Int64} {Q : Option Value → zG → Prop}    (kt : (V 45 7) < (Int32.ofInt 5) → E x F d 66 14 [some (.ref 45)] [] (V, T) Q) (kf : ¬ ((V 45 7) < (Int32.ofInt 5)) → E x F d 66 8 [some (.ref 45)] [] (V, T) Q) : E x F d 66 0 [some (.ref 45)] [] (V, T) Q := by
  refine e_aload_n zd66_0 rfl rfl ?_
  refine e_getI zd66_1 (own := 5) (ci := 5) (kf := 7) (w := 256) (by decide +kernel) (by decide +kernel) (zsh_at hF rfl).1 (by decide +kernel) rfl ?_
  refine e_iconst zd66_4 ?_
  exact e_icmp_lt zd66_5 (tg := 14) rfl kt kf
theorem b66_8 {x : zXs} {F : zF} (hF : zSh F) {d : Nat} {V : Nat → Nat → Int32} {T : Nat → Nat → Int64} {Q : Option Value → zG → Prop}    (k : E x F d 62 0 [some (.ref 45)] [] (V, T) (fun r G' => E x F (d + 1) 66 12 [some (.ref 45)] (r.toList ++ []) G' Q)) : E x F (d + 1) 66 8 [some (.ref 45)] [] (V, T) Q := by
  refine e_aload_n zd66_8 rfl rfl ?_
  exact e_callV zd66_9 (own := 5) (nest := false) (w := 564) (by decide +kernel) (by decide +kernel) zs62 (as := []) (rest := []) rfl rfl (zsh_at hF rfl).1 (by omega) (Nat.le_of_ble_eq_true rfl) rfl rfl rfl (by omega) k
theorem b66_12 {x : zXs} {F : zF} (hF : zSh F) {d : Nat} {V : Nat → Nat → Int32} {T : Nat → Nat → Int64} {Q : Option Value → zG → Prop} {o0 : Option Value}   (k : Q (some (.int (Int32.ofInt 0))) (V, T)) : E x F d 66 12 [o0] [] (V, T) Q := by
  refine e_iconst zd66_12 ?_
  exact e_iretz zd66_13 zs66 (by decide +kernel) k
theorem b66_14 {x : zXs} {F : zF} (hF : zSh F) {d : Nat} {V : Nat → Nat → Int32} {T : Nat → Nat → Int64} {Q : Option Value → zG → Prop}    (k : E x F d 46 0 [some (.ref 45)] [] (zu V 45 7 ((V 45 7) + (Int32.ofInt 1)), T) (fun r G' => E x F (d + 1) 66 28 [some (.ref 45)] (r.toList ++ []) G' Q)) : E x F (d + 1) 66 14 [some (.ref 45)] [] (V, T) Q := by
  refine e_aload_n zd66_14 rfl rfl ?_
  refine e_dup zd66_15 rfl ?_
  refine e_getI zd66_16 (own := 5) (ci := 5) (kf := 7) (w := 256) (by decide +kernel) (by decide +kernel) (zsh_at hF rfl).1 (by decide +kernel) rfl ?_
  refine e_iconst zd66_19 ?_
  refine e_iadd zd66_20 ?_
  refine e_putI zd66_21 (own := 5) (ci := 5) (kf := 7) (w := 256) (by decide +kernel) (by decide +kernel) (zsh_at hF rfl).1 (by decide +kernel) rfl ?_
  refine e_aload_n zd66_24 rfl rfl ?_
  exact e_callV zd66_25 (own := 5) (nest := false) (w := 472) (by decide +kernel) (by decide +kernel) zs46 (as := []) (rest := []) rfl rfl (zsh_at hF rfl).1 (by omega) (Nat.le_of_ble_eq_true rfl) rfl rfl rfl (by omega) k
theorem b66_28 {x : zXs} {F : zF} (hF : zSh F) {d : Nat} {V : Nat → Nat → Int32} {T : Nat → Nat → Int64} {Q : Option Value → zG → Prop} {o0 : Option Value}   (k : Q (some (.int (Int32.ofInt 1))) (V, T)) : E x F d 66 28 [o0] [] (V, T) Q := by
  refine e_iconst zd66_28 ?_
  exact e_iretz zd66_29 zs66 (by decide +kernel) k
theorem zd67_0 : zop 67 0 = some (.aload_n 0, 1) := by decide +kernel
theorem zd67_1 : zop 67 1 = some (.invokevirtual 70, 3) := by decide +kernel
theorem zd67_4 : zop 67 4 = some (.iconst 0, 1) := by decide +kernel
theorem zd67_5 : zop 67 5 = some (.istore_n 1, 1) := by decide +kernel
theorem zd67_6 : zop 67 6 = some (.iload_n 1, 1) := by decide +kernel
theorem zd67_7 : zop 67 7 = some (.sipush 160, 3) := by decide +kernel
theorem zd67_10 : zop 67 10 = some (.if_icmp .ge 60, 3) := by decide +kernel
theorem zd67_13 : zop 67 13 = some (.aload_n 0, 1) := by decide +kernel
theorem zd67_14 : zop 67 14 = some (.getfield 54, 3) := by decide +kernel
theorem zd67_17 : zop 67 17 = some (.bipush 43, 2) := by decide +kernel
theorem zd67_19 : zop 67 19 = some (.if_icmp .eq 12, 3) := by decide +kernel
theorem zd67_22 : zop 67 22 = some (.aload_n 0, 1) := by decide +kernel
theorem zd67_23 : zop 67 23 = some (.getfield 54, 3) := by decide +kernel
theorem zd67_26 : zop 67 26 = some (.bipush 45, 2) := by decide +kernel
theorem zd67_28 : zop 67 28 = some (.if_icmp .ne 42, 3) := by decide +kernel
theorem zd67_31 : zop 67 31 = some (.aload_n 0, 1) := by decide +kernel
theorem zd67_32 : zop 67 32 = some (.getfield 54, 3) := by decide +kernel
theorem zd67_35 : zop 67 35 = some (.bipush 43, 2) := by decide +kernel
theorem zd67_37 : zop 67 37 = some (.if_icmp .ne 8, 3) := by decide +kernel
theorem zd67_40 : zop 67 40 = some (.bipush 12, 2) := by decide +kernel
theorem zd67_42 : zop 67 42 = some (.goto 5, 3) := by decide +kernel
theorem zd67_45 : zop 67 45 = some (.bipush 13, 2) := by decide +kernel
theorem zd67_47 : zop 67 47 = some (.istore_n 2, 1) := by decide +kernel
theorem zd67_48 : zop 67 48 = some (.aload_n 0, 1) := by decide +kernel
theorem zd67_49 : zop 67 49 = some (.invokevirtual 38, 3) := by decide +kernel
theorem zd67_52 : zop 67 52 = some (.aload_n 0, 1) := by decide +kernel
theorem zd67_53 : zop 67 53 = some (.invokevirtual 70, 3) := by decide +kernel
theorem zd67_56 : zop 67 56 = some (.aload_n 0, 1) := by decide +kernel
theorem zd67_57 : zop 67 57 = some (.getfield 18, 3) := by decide +kernel
theorem zd67_60 : zop 67 60 = some (.iload_n 2, 1) := by decide +kernel
theorem zd67_61 : zop 67 61 = some (.invokevirtual 57, 3) := by decide +kernel
theorem zd67_64 : zop 67 64 = some (.iinc 1 1, 3) := by decide +kernel
theorem zd67_67 : zop 67 67 = some (.goto (-61), 3) := by decide +kernel
theorem zd67_70 : zop 67 70 = some (.return_, 1) := by decide +kernel
theorem b67_0 {x : zXs} {F : zF} (hF : zSh F) {d : Nat} {V : Nat → Nat → Int32} {T : Nat → Nat → Int64} {Q : Option Value → zG → Prop} {o1 : Option Value} {o2 : Option Value}   (k : E x F d 68 0 [some (.ref 45), none] [] (V, T) (fun r G' => E x F (d + 1) 67 4 [some (.ref 45), o1, o2] (r.toList ++ []) G' Q)) : E x F (d + 1) 67 0 [some (.ref 45), o1, o2] [] (V, T) Q := by
  refine e_aload_n zd67_0 rfl rfl ?_
  exact e_callV zd67_1 (own := 5) (nest := false) (w := 589) (by decide +kernel) (by decide +kernel) zs68 (as := []) (rest := []) rfl rfl (zsh_at hF rfl).1 (by omega) (Nat.le_of_ble_eq_true rfl) rfl rfl rfl (by omega) k
theorem b67_4 {x : zXs} {F : zF} (hF : zSh F) {d : Nat} {V : Nat → Nat → Int32} {T : Nat → Nat → Int64} {Q : Option Value → zG → Prop} {o0 : Option Value} {o1 : Option Value} {o2 : Option Value}   (k : E x F d 67 6 [o0, some (.int (Int32.ofInt 0)), o2] [] (V, T) Q) : E x F d 67 4 [o0, o1, o2] [] (V, T) Q := by
  refine e_iconst zd67_4 ?_
  refine e_istore_n zd67_5 (by decide +kernel) (Nat.le_of_ble_eq_true rfl) ?_
  exact k
theorem b67_6 {x : zXs} {F : zF} (hF : zSh F) {d : Nat} {V : Nat → Nat → Int32} {T : Nat → Nat → Int64} {Q : Option Value → zG → Prop} {o0 : Option Value} {l1 : Int32} {o2 : Option Value}   (kt : (Int32.ofInt 160) ≤ l1 → E x F d 67 70 [o0, some (.int l1), o2] [] (V, T) Q) (kf : ¬ ((Int32.ofInt 160) ≤ l1) → E x F d 67 13 [o0, some (.int l1), o2] [] (V, T) Q) : E x F d 67 6 [o0, some (.int l1), o2] [] (V, T) Q := by
  refine e_iload_n zd67_6 rfl ?_
  refine e_sipush zd67_7 (v := Int32.ofInt 160) (by decide +kernel) ?_
  exact e_icmp_ge zd67_10 (tg := 70) rfl kt kf
theorem b67_13 {x : zXs} {F : zF} (hF : zSh F) {d : Nat} {V : Nat → Nat → Int32} {T : Nat → Nat → Int64} {Q : Option Value → zG → Prop} {o1 : Option Value} {o2 : Option Value}   (kt : (V 45 3) = (Int32.ofInt 43) → E x F d 67 31 [some (.ref 45), o1, o2] [] (V, T) Q) (kf : ¬ ((V 45 3) = (Int32.ofInt 43)) → E x F d 67 22 [some (.ref 45), o1, o2] [] (V, T) Q) : E x F d 67 13 [some (.ref 45), o1, o2] [] (V, T) Q := by
  refine e_aload_n zd67_13 rfl rfl ?_
  refine e_getI zd67_14 (own := 5) (ci := 5) (kf := 3) (w := 252) (by decide +kernel) (by decide +kernel) (zsh_at hF rfl).1 (by decide +kernel) rfl ?_
  refine e_bipush zd67_17 (v := Int32.ofInt 43) (by decide +kernel) ?_
  exact e_icmp_eq zd67_19 (tg := 31) rfl kt kf
theorem b67_22 {x : zXs} {F : zF} (hF : zSh F) {d : Nat} {V : Nat → Nat → Int32} {T : Nat → Nat → Int64} {Q : Option Value → zG → Prop} {o1 : Option Value} {o2 : Option Value}   (kt : ¬ (V 45 3) = (Int32.ofInt 45) → E x F d 67 70 [some (.ref 45), o1, o2] [] (V, T) Q) (kf : ¬ (¬ (V 45 3) = (Int32.ofInt 45)) → E x F d 67 31 [some (.ref 45), o1, o2] [] (V, T) Q) : E x F d 67 22 [some (.ref 45), o1, o2] [] (V, T) Q := by
  refine e_aload_n zd67_22 rfl rfl ?_
  refine e_getI zd67_23 (own := 5) (ci := 5) (kf := 3) (w := 252) (by decide +kernel) (by decide +kernel) (zsh_at hF rfl).1 (by decide +kernel) rfl ?_
  refine e_bipush zd67_26 (v := Int32.ofInt 45) (by decide +kernel) ?_
  exact e_icmp_ne zd67_28 (tg := 70) rfl kt kf
theorem b67_31 {x : zXs} {F : zF} (hF : zSh F) {d : Nat} {V : Nat → Nat → Int32} {T : Nat → Nat → Int64} {Q : Option Value → zG → Prop} {o1 : Option Value} {o2 : Option Value}   (kt : ¬ (V 45 3) = (Int32.ofInt 43) → E x F d 67 45 [some (.ref 45), o1, o2] [] (V, T) Q) (kf : ¬ (¬ (V 45 3) = (Int32.ofInt 43)) → E x F d 67 40 [some (.ref 45), o1, o2] [] (V, T) Q) : E x F d 67 31 [some (.ref 45), o1, o2] [] (V, T) Q := by
  refine e_aload_n zd67_31 rfl rfl ?_
  refine e_getI zd67_32 (own := 5) (ci := 5) (kf := 3) (w := 252) (by decide +kernel) (by decide +kernel) (zsh_at hF rfl).1 (by decide +kernel) rfl ?_
  refine e_bipush zd67_35 (v := Int32.ofInt 43) (by decide +kernel) ?_
  exact e_icmp_ne zd67_37 (tg := 45) rfl kt kf
theorem b67_40 {x : zXs} {F : zF} (hF : zSh F) {d : Nat} {V : Nat → Nat → Int32} {T : Nat → Nat → Int64} {Q : Option Value → zG → Prop} {o0 : Option Value} {o1 : Option Value} {o2 : Option Value}   (k : E x F d 67 47 [o0, o1, o2] [.int (Int32.ofInt 12)] (V, T) Q) : E x F d 67 40 [o0, o1, o2] [] (V, T) Q := by
  refine e_bipush zd67_40 (v := Int32.ofInt 12) (by decide +kernel) ?_
  exact e_goto zd67_42 (tg := 47) rfl k
theorem b67_45 {x : zXs} {F : zF} (hF : zSh F) {d : Nat} {V : Nat → Nat → Int32} {T : Nat → Nat → Int64} {Q : Option Value → zG → Prop} {o0 : Option Value} {o1 : Option Value} {o2 : Option Value}   (k : E x F d 67 47 [o0, o1, o2] [.int (Int32.ofInt 13)] (V, T) Q) : E x F d 67 45 [o0, o1, o2] [] (V, T) Q := by
  refine e_bipush zd67_45 (v := Int32.ofInt 13) (by decide +kernel) ?_
  exact k
theorem b67_47 {x : zXs} {F : zF} (hF : zSh F) {d : Nat} {V : Nat → Nat → Int32} {T : Nat → Nat → Int64} {Q : Option Value → zG → Prop} {o1 : Option Value} {o2 : Option Value} {s0 : Int32}   (k : E x F d 46 0 [some (.ref 45)] [] (V, T) (fun r G' => E x F (d + 1) 67 52 [some (.ref 45), o1, some (.int s0)] (r.toList ++ []) G' Q)) : E x F (d + 1) 67 47 [some (.ref 45), o1, o2] [.int s0] (V, T) Q := by
  refine e_istore_n zd67_47 (by decide +kernel) (Nat.le_of_ble_eq_true rfl) ?_
  refine e_aload_n zd67_48 rfl rfl ?_
  exact e_callV zd67_49 (own := 5) (nest := false) (w := 472) (by decide +kernel) (by decide +kernel) zs46 (as := []) (rest := []) rfl rfl (zsh_at hF rfl).1 (by omega) (Nat.le_of_ble_eq_true rfl) rfl rfl rfl (by omega) k
theorem b67_52 {x : zXs} {F : zF} (hF : zSh F) {d : Nat} {V : Nat → Nat → Int32} {T : Nat → Nat → Int64} {Q : Option Value → zG → Prop} {o1 : Option Value} {o2 : Option Value}   (k : E x F d 68 0 [some (.ref 45), none] [] (V, T) (fun r G' => E x F (d + 1) 67 56 [some (.ref 45), o1, o2] (r.toList ++ []) G' Q)) : E x F (d + 1) 67 52 [some (.ref 45), o1, o2] [] (V, T) Q := by
  refine e_aload_n zd67_52 rfl rfl ?_
  exact e_callV zd67_53 (own := 5) (nest := false) (w := 589) (by decide +kernel) (by decide +kernel) zs68 (as := []) (rest := []) rfl rfl (zsh_at hF rfl).1 (by omega) (Nat.le_of_ble_eq_true rfl) rfl rfl rfl (by omega) k
theorem b67_56 {x : zXs} {F : zF} (hF : zSh F) {d : Nat} {V : Nat → Nat → Int32} {T : Nat → Nat → Int64} {Q : Option Value → zG → Prop} {o1 : Option Value} {l2 : Int32}   (k : E x F d 5 0 [some (.ref 47), some (.int l2)] [] (V, T) (fun r G' => E x F (d + 1) 67 64 [some (.ref 45), o1, some (.int l2)] (r.toList ++ []) G' Q)) : E x F (d + 1) 67 56 [some (.ref 45), o1, some (.int l2)] [] (V, T) Q := by
  refine e_aload_n zd67_56 rfl rfl ?_
  refine e_getO zd67_57 (own := 5) (ci := 5) (kf := 2) (w := 250) (by decide +kernel) (by decide +kernel) (zsh_at hF rfl).1 (by decide +kernel) rfl (zrf_at hF (i := 48) rfl) ?_
  refine e_iload_n zd67_60 rfl ?_
  exact e_callV zd67_61 (own := 5) (nest := false) (w := 584) (by decide +kernel) (by decide +kernel) zs5 (as := [.int l2]) (rest := []) rfl rfl (zsh_at hF rfl).1 (by omega) (Nat.le_of_ble_eq_true rfl) rfl rfl rfl (by omega) k
theorem b67_64 {x : zXs} {F : zF} (hF : zSh F) {d : Nat} {V : Nat → Nat → Int32} {T : Nat → Nat → Int64} {Q : Option Value → zG → Prop} {o0 : Option Value} {l1 : Int32} {o2 : Option Value}   (k : E x F d 67 6 [o0, some (.int (l1 + Int32.ofInt 1)), o2] [] (V, T) Q) : E x F d 67 64 [o0, some (.int l1), o2] [] (V, T) Q := by
  refine e_iinc zd67_64 rfl (by decide +kernel) ?_
  exact e_goto zd67_67 (tg := 6) rfl k
theorem b67_70 {x : zXs} {F : zF} (hF : zSh F) {d : Nat} {V : Nat → Nat → Int32} {T : Nat → Nat → Int64} {Q : Option Value → zG → Prop} {o0 : Option Value} {o1 : Option Value} {o2 : Option Value}   (k : Q none (V, T)) : E x F d 67 70 [o0, o1, o2] [] (V, T) Q := by
  exact e_vret zd67_70 zs67 k
theorem zd68_0 : zop 68 0 = some (.aload_n 0, 1) := by decide +kernel
theorem zd68_1 : zop 68 1 = some (.invokevirtual 73, 3) := by decide +kernel
theorem zd68_4 : zop 68 4 = some (.iconst 0, 1) := by decide +kernel
theorem zd68_5 : zop 68 5 = some (.istore_n 1, 1) := by decide +kernel
theorem zd68_6 : zop 68 6 = some (.iload_n 1, 1) := by decide +kernel
theorem zd68_7 : zop 68 7 = some (.sipush 160, 3) := by decide +kernel
theorem zd68_10 : zop 68 10 = some (.if_icmp .ge 35, 3) := by decide +kernel
theorem zd68_13 : zop 68 13 = some (.aload_n 0, 1) := by decide +kernel
theorem zd68_14 : zop 68 14 = some (.getfield 54, 3) := by decide +kernel
theorem zd68_17 : zop 68 17 = some (.bipush 42, 2) := by decide +kernel
theorem zd68_19 : zop 68 19 = some (.if_icmp .ne 26, 3) := by decide +kernel
theorem zd68_22 : zop 68 22 = some (.aload_n 0, 1) := by decide +kernel
theorem zd68_23 : zop 68 23 = some (.invokevirtual 38, 3) := by decide +kernel
theorem zd68_26 : zop 68 26 = some (.aload_n 0, 1) := by decide +kernel
theorem zd68_27 : zop 68 27 = some (.invokevirtual 73, 3) := by decide +kernel
theorem zd68_30 : zop 68 30 = some (.aload_n 0, 1) := by decide +kernel
theorem zd68_31 : zop 68 31 = some (.getfield 18, 3) := by decide +kernel
theorem zd68_34 : zop 68 34 = some (.bipush 14, 2) := by decide +kernel
theorem zd68_36 : zop 68 36 = some (.invokevirtual 57, 3) := by decide +kernel
theorem zd68_39 : zop 68 39 = some (.iinc 1 1, 3) := by decide +kernel
theorem zd68_42 : zop 68 42 = some (.goto (-36), 3) := by decide +kernel
theorem zd68_45 : zop 68 45 = some (.return_, 1) := by decide +kernel
theorem b68_0 {x : zXs} {F : zF} (hF : zSh F) {d : Nat} {V : Nat → Nat → Int32} {T : Nat → Nat → Int64} {Q : Option Value → zG → Prop} {o1 : Option Value}   (k : E x F d 69 0 [some (.ref 45)] [] (V, T) (fun r G' => E x F (d + 1) 68 4 [some (.ref 45), o1] (r.toList ++ []) G' Q)) : E x F (d + 1) 68 0 [some (.ref 45), o1] [] (V, T) Q := by
  refine e_aload_n zd68_0 rfl rfl ?_
  exact e_callV zd68_1 (own := 5) (nest := false) (w := 593) (by decide +kernel) (by decide +kernel) zs69 (as := []) (rest := []) rfl rfl (zsh_at hF rfl).1 (by omega) (Nat.le_of_ble_eq_true rfl) rfl rfl rfl (by omega) k
theorem b68_4 {x : zXs} {F : zF} (hF : zSh F) {d : Nat} {V : Nat → Nat → Int32} {T : Nat → Nat → Int64} {Q : Option Value → zG → Prop} {o0 : Option Value} {o1 : Option Value}   (k : E x F d 68 6 [o0, some (.int (Int32.ofInt 0))] [] (V, T) Q) : E x F d 68 4 [o0, o1] [] (V, T) Q := by
  refine e_iconst zd68_4 ?_
  refine e_istore_n zd68_5 (by decide +kernel) (Nat.le_of_ble_eq_true rfl) ?_
  exact k
theorem b68_6 {x : zXs} {F : zF} (hF : zSh F) {d : Nat} {V : Nat → Nat → Int32} {T : Nat → Nat → Int64} {Q : Option Value → zG → Prop} {o0 : Option Value} {l1 : Int32}   (kt : (Int32.ofInt 160) ≤ l1 → E x F d 68 45 [o0, some (.int l1)] [] (V, T) Q) (kf : ¬ ((Int32.ofInt 160) ≤ l1) → E x F d 68 13 [o0, some (.int l1)] [] (V, T) Q) : E x F d 68 6 [o0, some (.int l1)] [] (V, T) Q := by
  refine e_iload_n zd68_6 rfl ?_
  refine e_sipush zd68_7 (v := Int32.ofInt 160) (by decide +kernel) ?_
  exact e_icmp_ge zd68_10 (tg := 45) rfl kt kf
theorem b68_13 {x : zXs} {F : zF} (hF : zSh F) {d : Nat} {V : Nat → Nat → Int32} {T : Nat → Nat → Int64} {Q : Option Value → zG → Prop} {o1 : Option Value}   (kt : ¬ (V 45 3) = (Int32.ofInt 42) → E x F d 68 45 [some (.ref 45), o1] [] (V, T) Q) (kf : ¬ (¬ (V 45 3) = (Int32.ofInt 42)) → E x F d 68 22 [some (.ref 45), o1] [] (V, T) Q) : E x F d 68 13 [some (.ref 45), o1] [] (V, T) Q := by
  refine e_aload_n zd68_13 rfl rfl ?_
  refine e_getI zd68_14 (own := 5) (ci := 5) (kf := 3) (w := 252) (by decide +kernel) (by decide +kernel) (zsh_at hF rfl).1 (by decide +kernel) rfl ?_
  refine e_bipush zd68_17 (v := Int32.ofInt 42) (by decide +kernel) ?_
  exact e_icmp_ne zd68_19 (tg := 45) rfl kt kf
theorem b68_22 {x : zXs} {F : zF} (hF : zSh F) {d : Nat} {V : Nat → Nat → Int32} {T : Nat → Nat → Int64} {Q : Option Value → zG → Prop} {o1 : Option Value}   (k : E x F d 46 0 [some (.ref 45)] [] (V, T) (fun r G' => E x F (d + 1) 68 26 [some (.ref 45), o1] (r.toList ++ []) G' Q)) : E x F (d + 1) 68 22 [some (.ref 45), o1] [] (V, T) Q := by
  refine e_aload_n zd68_22 rfl rfl ?_
  exact e_callV zd68_23 (own := 5) (nest := false) (w := 472) (by decide +kernel) (by decide +kernel) zs46 (as := []) (rest := []) rfl rfl (zsh_at hF rfl).1 (by omega) (Nat.le_of_ble_eq_true rfl) rfl rfl rfl (by omega) k
theorem b68_26 {x : zXs} {F : zF} (hF : zSh F) {d : Nat} {V : Nat → Nat → Int32} {T : Nat → Nat → Int64} {Q : Option Value → zG → Prop} {o1 : Option Value}   (k : E x F d 69 0 [some (.ref 45)] [] (V, T) (fun r G' => E x F (d + 1) 68 30 [some (.ref 45), o1] (r.toList ++ []) G' Q)) : E x F (d + 1) 68 26 [some (.ref 45), o1] [] (V, T) Q := by
  refine e_aload_n zd68_26 rfl rfl ?_
  exact e_callV zd68_27 (own := 5) (nest := false) (w := 593) (by decide +kernel) (by decide +kernel) zs69 (as := []) (rest := []) rfl rfl (zsh_at hF rfl).1 (by omega) (Nat.le_of_ble_eq_true rfl) rfl rfl rfl (by omega) k
theorem b68_30 {x : zXs} {F : zF} (hF : zSh F) {d : Nat} {V : Nat → Nat → Int32} {T : Nat → Nat → Int64} {Q : Option Value → zG → Prop} {o1 : Option Value}   (k : E x F d 5 0 [some (.ref 47), some (.int (Int32.ofInt 14))] [] (V, T) (fun r G' => E x F (d + 1) 68 39 [some (.ref 45), o1] (r.toList ++ []) G' Q)) : E x F (d + 1) 68 30 [some (.ref 45), o1] [] (V, T) Q := by
  refine e_aload_n zd68_30 rfl rfl ?_
  refine e_getO zd68_31 (own := 5) (ci := 5) (kf := 2) (w := 250) (by decide +kernel) (by decide +kernel) (zsh_at hF rfl).1 (by decide +kernel) rfl (zrf_at hF (i := 48) rfl) ?_
  refine e_bipush zd68_34 (v := Int32.ofInt 14) (by decide +kernel) ?_
  exact e_callV zd68_36 (own := 5) (nest := false) (w := 584) (by decide +kernel) (by decide +kernel) zs5 (as := [.int (Int32.ofInt 14)]) (rest := []) rfl rfl (zsh_at hF rfl).1 (by omega) (Nat.le_of_ble_eq_true rfl) rfl rfl rfl (by omega) k
theorem b68_39 {x : zXs} {F : zF} (hF : zSh F) {d : Nat} {V : Nat → Nat → Int32} {T : Nat → Nat → Int64} {Q : Option Value → zG → Prop} {o0 : Option Value} {l1 : Int32}   (k : E x F d 68 6 [o0, some (.int (l1 + Int32.ofInt 1))] [] (V, T) Q) : E x F d 68 39 [o0, some (.int l1)] [] (V, T) Q := by
  refine e_iinc zd68_39 rfl (by decide +kernel) ?_
  exact e_goto zd68_42 (tg := 6) rfl k
theorem b68_45 {x : zXs} {F : zF} (hF : zSh F) {d : Nat} {V : Nat → Nat → Int32} {T : Nat → Nat → Int64} {Q : Option Value → zG → Prop} {o0 : Option Value} {o1 : Option Value}   (k : Q none (V, T)) : E x F d 68 45 [o0, o1] [] (V, T) Q := by
  exact e_vret zd68_45 zs68 k
theorem zd69_0 : zop 69 0 = some (.aload_n 0, 1) := by decide +kernel
theorem zd69_1 : zop 69 1 = some (.getfield 54, 3) := by decide +kernel
theorem zd69_4 : zop 69 4 = some (.lookupswitch 146 #[(2, 44), (3, 65), (40, 116), (45, 83)], 44) := by decide +kernel
theorem zd69_48 : zop 69 48 = some (.aload_n 0, 1) := by decide +kernel
theorem zd69_49 : zop 69 49 = some (.getfield 18, 3) := by decide +kernel
theorem zd69_52 : zop 69 52 = some (.bipush 100, 2) := by decide +kernel
theorem zd69_54 : zop 69 54 = some (.aload_n 0, 1) := by decide +kernel
theorem zd69_55 : zop 69 55 = some (.getfield 76, 3) := by decide +kernel
theorem zd69_58 : zop 69 58 = some (.iadd, 1) := by decide +kernel
theorem zd69_59 : zop 69 59 = some (.invokevirtual 57, 3) := by decide +kernel
theorem zd69_62 : zop 69 62 = some (.aload_n 0, 1) := by decide +kernel
theorem zd69_63 : zop 69 63 = some (.invokevirtual 38, 3) := by decide +kernel
theorem zd69_66 : zop 69 66 = some (.goto 88, 3) := by decide +kernel
theorem zd69_69 : zop 69 69 = some (.aload_n 0, 1) := by decide +kernel
theorem zd69_70 : zop 69 70 = some (.getfield 18, 3) := by decide +kernel
theorem zd69_73 : zop 69 73 = some (.aload_n 0, 1) := by decide +kernel
theorem zd69_74 : zop 69 74 = some (.getfield 76, 3) := by decide +kernel
theorem zd69_77 : zop 69 77 = some (.invokevirtual 57, 3) := by decide +kernel
theorem zd69_80 : zop 69 80 = some (.aload_n 0, 1) := by decide +kernel
theorem zd69_81 : zop 69 81 = some (.invokevirtual 38, 3) := by decide +kernel
theorem zd69_84 : zop 69 84 = some (.goto 70, 3) := by decide +kernel
theorem zd69_87 : zop 69 87 = some (.aload_n 0, 1) := by decide +kernel
theorem zd69_88 : zop 69 88 = some (.invokevirtual 63, 3) := by decide +kernel
theorem zd69_91 : zop 69 91 = some (.ifCond .eq 63, 3) := by decide +kernel
theorem zd69_94 : zop 69 94 = some (.aload_n 0, 1) := by decide +kernel
theorem zd69_95 : zop 69 95 = some (.invokevirtual 73, 3) := by decide +kernel
theorem zd69_98 : zop 69 98 = some (.aload_n 0, 1) := by decide +kernel
theorem zd69_99 : zop 69 99 = some (.getfield 18, 3) := by decide +kernel
theorem zd69_102 : zop 69 102 = some (.bipush 6, 2) := by decide +kernel
theorem zd69_104 : zop 69 104 = some (.invokevirtual 57, 3) := by decide +kernel
theorem zd69_107 : zop 69 107 = some (.aload_n 0, 1) := by decide +kernel
theorem zd69_108 : zop 69 108 = some (.dup, 1) := by decide +kernel
theorem zd69_109 : zop 69 109 = some (.getfield 29, 3) := by decide +kernel
theorem zd69_112 : zop 69 112 = some (.iconst 1, 1) := by decide +kernel
theorem zd69_113 : zop 69 113 = some (.isub, 1) := by decide +kernel
theorem zd69_114 : zop 69 114 = some (.putfield 29, 3) := by decide +kernel
theorem zd69_117 : zop 69 117 = some (.goto 37, 3) := by decide +kernel
theorem zd69_120 : zop 69 120 = some (.aload_n 0, 1) := by decide +kernel
theorem zd69_121 : zop 69 121 = some (.invokevirtual 63, 3) := by decide +kernel
theorem zd69_124 : zop 69 124 = some (.ifCond .eq 30, 3) := by decide +kernel
theorem zd69_127 : zop 69 127 = some (.aload_n 0, 1) := by decide +kernel
theorem zd69_128 : zop 69 128 = some (.invokevirtual 45, 3) := by decide +kernel
theorem zd69_131 : zop 69 131 = some (.aload_n 0, 1) := by decide +kernel
theorem zd69_132 : zop 69 132 = some (.bipush 41, 2) := by decide +kernel
theorem zd69_134 : zop 69 134 = some (.invokevirtual 41, 3) := by decide +kernel
theorem zd69_137 : zop 69 137 = some (.aload_n 0, 1) := by decide +kernel
theorem zd69_138 : zop 69 138 = some (.dup, 1) := by decide +kernel
theorem zd69_139 : zop 69 139 = some (.getfield 29, 3) := by decide +kernel
theorem zd69_142 : zop 69 142 = some (.iconst 1, 1) := by decide +kernel
theorem zd69_143 : zop 69 143 = some (.isub, 1) := by decide +kernel
theorem zd69_144 : zop 69 144 = some (.putfield 29, 3) := by decide +kernel
theorem zd69_147 : zop 69 147 = some (.goto 7, 3) := by decide +kernel
theorem zd69_150 : zop 69 150 = some (.aload_n 0, 1) := by decide +kernel
theorem zd69_151 : zop 69 151 = some (.invokevirtual 79, 3) := by decide +kernel
theorem zd69_154 : zop 69 154 = some (.return_, 1) := by decide +kernel
theorem b69_0 {x : zXs} {F : zF} (hF : zSh F) {d : Nat} {V : Nat → Nat → Int32} {T : Nat → Nat → Int64} {Q : Option Value → zG → Prop}    (k0 : (V 45 3) = Int32.ofInt 2 → E x F d 69 48 [some (.ref 45)] [] (V, T) Q) (k1 : (V 45 3) = Int32.ofInt 3 → E x F d 69 69 [some (.ref 45)] [] (V, T) Q) (k2 : (V 45 3) = Int32.ofInt 40 → E x F d 69 120 [some (.ref 45)] [] (V, T) Q) (k3 : (V 45 3) = Int32.ofInt 45 → E x F d 69 87 [some (.ref 45)] [] (V, T) Q) (kd : ¬ (V 45 3) = Int32.ofInt 2 ∧ ¬ (V 45 3) = Int32.ofInt 3 ∧ ¬ (V 45 3) = Int32.ofInt 40 ∧ ¬ (V 45 3) = Int32.ofInt 45 → E x F d 69 150 [some (.ref 45)] [] (V, T) Q) : E x F d 69 0 [some (.ref 45)] [] (V, T) Q := by
  refine e_aload_n zd69_0 rfl rfl ?_
  refine e_getI zd69_1 (own := 5) (ci := 5) (kf := 3) (w := 252) (by decide +kernel) (by decide +kernel) (zsh_at hF rfl).1 (by decide +kernel) rfl ?_
  by_cases c0 : (V 45 3) = Int32.ofInt 2
  · exact e_lookup zd69_4 (by decide +kernel) (tg := 48) (by rw [c0]; decide +kernel) (k0 c0)
  by_cases c1 : (V 45 3) = Int32.ofInt 3
  · exact e_lookup zd69_4 (by decide +kernel) (tg := 69) (by rw [c1]; decide +kernel) (k1 c1)
  by_cases c2 : (V 45 3) = Int32.ofInt 40
  · exact e_lookup zd69_4 (by decide +kernel) (tg := 120) (by rw [c2]; decide +kernel) (k2 c2)
  by_cases c3 : (V 45 3) = Int32.ofInt 45
  · exact e_lookup zd69_4 (by decide +kernel) (tg := 87) (by rw [c3]; decide +kernel) (k3 c3)
  exact e_lookup zd69_4 (by decide +kernel) (tg := 150) (by rw [lv_osw c0 (by decide +kernel), lv_osw c1 (by decide +kernel), lv_osw c2 (by decide +kernel), lv_osw c3 (by decide +kernel)]; rfl) (kd ⟨c0, c1, c2, c3⟩)
theorem b69_48 {x : zXs} {F : zF} (hF : zSh F) {d : Nat} {V : Nat → Nat → Int32} {T : Nat → Nat → Int64} {Q : Option Value → zG → Prop}    (k : E x F d 5 0 [some (.ref 47), some (.int ((Int32.ofInt 100) + (V 45 4)))] [] (V, T) (fun r G' => E x F (d + 1) 69 62 [some (.ref 45)] (r.toList ++ []) G' Q)) : E x F (d + 1) 69 48 [some (.ref 45)] [] (V, T) Q := by
  refine e_aload_n zd69_48 rfl rfl ?_
  refine e_getO zd69_49 (own := 5) (ci := 5) (kf := 2) (w := 250) (by decide +kernel) (by decide +kernel) (zsh_at hF rfl).1 (by decide +kernel) rfl (zrf_at hF (i := 48) rfl) ?_
  refine e_bipush zd69_52 (v := Int32.ofInt 100) (by decide +kernel) ?_
  refine e_aload_n zd69_54 rfl rfl ?_
  refine e_getI zd69_55 (own := 5) (ci := 5) (kf := 4) (w := 253) (by decide +kernel) (by decide +kernel) (zsh_at hF rfl).1 (by decide +kernel) rfl ?_
  refine e_iadd zd69_58 ?_
  exact e_callV zd69_59 (own := 5) (nest := false) (w := 584) (by decide +kernel) (by decide +kernel) zs5 (as := [.int ((Int32.ofInt 100) + (V 45 4))]) (rest := []) rfl rfl (zsh_at hF rfl).1 (by omega) (Nat.le_of_ble_eq_true rfl) rfl rfl rfl (by omega) k
theorem b69_62 {x : zXs} {F : zF} (hF : zSh F) {d : Nat} {V : Nat → Nat → Int32} {T : Nat → Nat → Int64} {Q : Option Value → zG → Prop}    (k : E x F d 46 0 [some (.ref 45)] [] (V, T) (fun r G' => E x F (d + 1) 69 66 [some (.ref 45)] (r.toList ++ []) G' Q)) : E x F (d + 1) 69 62 [some (.ref 45)] [] (V, T) Q := by
  refine e_aload_n zd69_62 rfl rfl ?_
  exact e_callV zd69_63 (own := 5) (nest := false) (w := 472) (by decide +kernel) (by decide +kernel) zs46 (as := []) (rest := []) rfl rfl (zsh_at hF rfl).1 (by omega) (Nat.le_of_ble_eq_true rfl) rfl rfl rfl (by omega) k
theorem b69_66 {x : zXs} {F : zF} (hF : zSh F) {d : Nat} {V : Nat → Nat → Int32} {T : Nat → Nat → Int64} {Q : Option Value → zG → Prop} {o0 : Option Value}   (k : E x F d 69 154 [o0] [] (V, T) Q) : E x F d 69 66 [o0] [] (V, T) Q := by
  exact e_goto zd69_66 (tg := 154) rfl k
theorem b69_69 {x : zXs} {F : zF} (hF : zSh F) {d : Nat} {V : Nat → Nat → Int32} {T : Nat → Nat → Int64} {Q : Option Value → zG → Prop}    (k : E x F d 5 0 [some (.ref 47), some (.int (V 45 4))] [] (V, T) (fun r G' => E x F (d + 1) 69 80 [some (.ref 45)] (r.toList ++ []) G' Q)) : E x F (d + 1) 69 69 [some (.ref 45)] [] (V, T) Q := by
  refine e_aload_n zd69_69 rfl rfl ?_
  refine e_getO zd69_70 (own := 5) (ci := 5) (kf := 2) (w := 250) (by decide +kernel) (by decide +kernel) (zsh_at hF rfl).1 (by decide +kernel) rfl (zrf_at hF (i := 48) rfl) ?_
  refine e_aload_n zd69_73 rfl rfl ?_
  refine e_getI zd69_74 (own := 5) (ci := 5) (kf := 4) (w := 253) (by decide +kernel) (by decide +kernel) (zsh_at hF rfl).1 (by decide +kernel) rfl ?_
  exact e_callV zd69_77 (own := 5) (nest := false) (w := 584) (by decide +kernel) (by decide +kernel) zs5 (as := [.int (V 45 4)]) (rest := []) rfl rfl (zsh_at hF rfl).1 (by omega) (Nat.le_of_ble_eq_true rfl) rfl rfl rfl (by omega) k
theorem b69_80 {x : zXs} {F : zF} (hF : zSh F) {d : Nat} {V : Nat → Nat → Int32} {T : Nat → Nat → Int64} {Q : Option Value → zG → Prop}    (k : E x F d 46 0 [some (.ref 45)] [] (V, T) (fun r G' => E x F (d + 1) 69 84 [some (.ref 45)] (r.toList ++ []) G' Q)) : E x F (d + 1) 69 80 [some (.ref 45)] [] (V, T) Q := by
  refine e_aload_n zd69_80 rfl rfl ?_
  exact e_callV zd69_81 (own := 5) (nest := false) (w := 472) (by decide +kernel) (by decide +kernel) zs46 (as := []) (rest := []) rfl rfl (zsh_at hF rfl).1 (by omega) (Nat.le_of_ble_eq_true rfl) rfl rfl rfl (by omega) k
theorem b69_84 {x : zXs} {F : zF} (hF : zSh F) {d : Nat} {V : Nat → Nat → Int32} {T : Nat → Nat → Int64} {Q : Option Value → zG → Prop} {o0 : Option Value}   (k : E x F d 69 154 [o0] [] (V, T) Q) : E x F d 69 84 [o0] [] (V, T) Q := by
  exact e_goto zd69_84 (tg := 154) rfl k
theorem b69_87 {x : zXs} {F : zF} (hF : zSh F) {d : Nat} {V : Nat → Nat → Int32} {T : Nat → Nat → Int64} {Q : Option Value → zG → Prop}    (k : E x F d 66 0 [some (.ref 45)] [] (V, T) (fun r G' => E x F (d + 1) 69 91 [some (.ref 45)] (r.toList ++ []) G' Q)) : E x F (d + 1) 69 87 [some (.ref 45)] [] (V, T) Q := by
  refine e_aload_n zd69_87 rfl rfl ?_
  exact e_callV zd69_88 (own := 5) (nest := false) (w := 580) (by decide +kernel) (by decide +kernel) zs66 (as := []) (rest := []) rfl rfl (zsh_at hF rfl).1 (by omega) (Nat.le_of_ble_eq_true rfl) rfl rfl rfl (by omega) k
theorem b69_91 {x : zXs} {F : zF} (hF : zSh F) {d : Nat} {V : Nat → Nat → Int32} {T : Nat → Nat → Int64} {Q : Option Value → zG → Prop} {o0 : Option Value} {s0 : Int32}   (kt : s0 = 0 → E x F d 69 154 [o0] [] (V, T) Q) (kf : ¬ (s0 = 0) → E x F d 69 94 [o0] [] (V, T) Q) : E x F d 69 91 [o0] [.int s0] (V, T) Q := by
  exact e_if_eq zd69_91 (tg := 154) rfl kt kf
theorem b69_94 {x : zXs} {F : zF} (hF : zSh F) {d : Nat} {V : Nat → Nat → Int32} {T : Nat → Nat → Int64} {Q : Option Value → zG → Prop}    (k : E x F d 69 0 [some (.ref 45)] [] (V, T) (fun r G' => E x F (d + 1) 69 98 [some (.ref 45)] (r.toList ++ []) G' Q)) : E x F (d + 1) 69 94 [some (.ref 45)] [] (V, T) Q := by
  refine e_aload_n zd69_94 rfl rfl ?_
  exact e_callV zd69_95 (own := 5) (nest := false) (w := 593) (by decide +kernel) (by decide +kernel) zs69 (as := []) (rest := []) rfl rfl (zsh_at hF rfl).1 (by omega) (Nat.le_of_ble_eq_true rfl) rfl rfl rfl (by omega) k
theorem b69_98 {x : zXs} {F : zF} (hF : zSh F) {d : Nat} {V : Nat → Nat → Int32} {T : Nat → Nat → Int64} {Q : Option Value → zG → Prop}    (k : E x F d 5 0 [some (.ref 47), some (.int (Int32.ofInt 6))] [] (V, T) (fun r G' => E x F (d + 1) 69 107 [some (.ref 45)] (r.toList ++ []) G' Q)) : E x F (d + 1) 69 98 [some (.ref 45)] [] (V, T) Q := by
  refine e_aload_n zd69_98 rfl rfl ?_
  refine e_getO zd69_99 (own := 5) (ci := 5) (kf := 2) (w := 250) (by decide +kernel) (by decide +kernel) (zsh_at hF rfl).1 (by decide +kernel) rfl (zrf_at hF (i := 48) rfl) ?_
  refine e_bipush zd69_102 (v := Int32.ofInt 6) (by decide +kernel) ?_
  exact e_callV zd69_104 (own := 5) (nest := false) (w := 584) (by decide +kernel) (by decide +kernel) zs5 (as := [.int (Int32.ofInt 6)]) (rest := []) rfl rfl (zsh_at hF rfl).1 (by omega) (Nat.le_of_ble_eq_true rfl) rfl rfl rfl (by omega) k
theorem b69_107 {x : zXs} {F : zF} (hF : zSh F) {d : Nat} {V : Nat → Nat → Int32} {T : Nat → Nat → Int64} {Q : Option Value → zG → Prop}    (k : E x F d 69 154 [some (.ref 45)] [] (zu V 45 7 ((V 45 7) - (Int32.ofInt 1)), T) Q) : E x F d 69 107 [some (.ref 45)] [] (V, T) Q := by
  refine e_aload_n zd69_107 rfl rfl ?_
  refine e_dup zd69_108 rfl ?_
  refine e_getI zd69_109 (own := 5) (ci := 5) (kf := 7) (w := 256) (by decide +kernel) (by decide +kernel) (zsh_at hF rfl).1 (by decide +kernel) rfl ?_
  refine e_iconst zd69_112 ?_
  refine e_isub zd69_113 ?_
  refine e_putI zd69_114 (own := 5) (ci := 5) (kf := 7) (w := 256) (by decide +kernel) (by decide +kernel) (zsh_at hF rfl).1 (by decide +kernel) rfl ?_
  exact e_goto zd69_117 (tg := 154) rfl k
theorem b69_120 {x : zXs} {F : zF} (hF : zSh F) {d : Nat} {V : Nat → Nat → Int32} {T : Nat → Nat → Int64} {Q : Option Value → zG → Prop}    (k : E x F d 66 0 [some (.ref 45)] [] (V, T) (fun r G' => E x F (d + 1) 69 124 [some (.ref 45)] (r.toList ++ []) G' Q)) : E x F (d + 1) 69 120 [some (.ref 45)] [] (V, T) Q := by
  refine e_aload_n zd69_120 rfl rfl ?_
  exact e_callV zd69_121 (own := 5) (nest := false) (w := 580) (by decide +kernel) (by decide +kernel) zs66 (as := []) (rest := []) rfl rfl (zsh_at hF rfl).1 (by omega) (Nat.le_of_ble_eq_true rfl) rfl rfl rfl (by omega) k
theorem b69_124 {x : zXs} {F : zF} (hF : zSh F) {d : Nat} {V : Nat → Nat → Int32} {T : Nat → Nat → Int64} {Q : Option Value → zG → Prop} {o0 : Option Value} {s0 : Int32}   (kt : s0 = 0 → E x F d 69 154 [o0] [] (V, T) Q) (kf : ¬ (s0 = 0) → E x F d 69 127 [o0] [] (V, T) Q) : E x F d 69 124 [o0] [.int s0] (V, T) Q := by
  exact e_if_eq zd69_124 (tg := 154) rfl kt kf
theorem b69_127 {x : zXs} {F : zF} (hF : zSh F) {d : Nat} {V : Nat → Nat → Int32} {T : Nat → Nat → Int64} {Q : Option Value → zG → Prop}    (k : E x F d 63 0 [some (.ref 45), none] [] (V, T) (fun r G' => E x F (d + 1) 69 131 [some (.ref 45)] (r.toList ++ []) G' Q)) : E x F (d + 1) 69 127 [some (.ref 45)] [] (V, T) Q := by
  refine e_aload_n zd69_127 rfl rfl ?_
  exact e_callV zd69_128 (own := 5) (nest := false) (w := 568) (by decide +kernel) (by decide +kernel) zs63 (as := []) (rest := []) rfl rfl (zsh_at hF rfl).1 (by omega) (Nat.le_of_ble_eq_true rfl) rfl rfl rfl (by omega) k
theorem b69_131 {x : zXs} {F : zF} (hF : zSh F) {d : Nat} {V : Nat → Nat → Int32} {T : Nat → Nat → Int64} {Q : Option Value → zG → Prop}    (k : E x F d 61 0 [some (.ref 45), some (.int (Int32.ofInt 41))] [] (V, T) (fun r G' => E x F (d + 1) 69 137 [some (.ref 45)] (r.toList ++ []) G' Q)) : E x F (d + 1) 69 131 [some (.ref 45)] [] (V, T) Q := by
  refine e_aload_n zd69_131 rfl rfl ?_
  refine e_bipush zd69_132 (v := Int32.ofInt 41) (by decide +kernel) ?_
  exact e_callV zd69_134 (own := 5) (nest := false) (w := 560) (by decide +kernel) (by decide +kernel) zs61 (as := [.int (Int32.ofInt 41)]) (rest := []) rfl rfl (zsh_at hF rfl).1 (by omega) (Nat.le_of_ble_eq_true rfl) rfl rfl rfl (by omega) k
theorem b69_137 {x : zXs} {F : zF} (hF : zSh F) {d : Nat} {V : Nat → Nat → Int32} {T : Nat → Nat → Int64} {Q : Option Value → zG → Prop}    (k : E x F d 69 154 [some (.ref 45)] [] (zu V 45 7 ((V 45 7) - (Int32.ofInt 1)), T) Q) : E x F d 69 137 [some (.ref 45)] [] (V, T) Q := by
  refine e_aload_n zd69_137 rfl rfl ?_
  refine e_dup zd69_138 rfl ?_
  refine e_getI zd69_139 (own := 5) (ci := 5) (kf := 7) (w := 256) (by decide +kernel) (by decide +kernel) (zsh_at hF rfl).1 (by decide +kernel) rfl ?_
  refine e_iconst zd69_142 ?_
  refine e_isub zd69_143 ?_
  refine e_putI zd69_144 (own := 5) (ci := 5) (kf := 7) (w := 256) (by decide +kernel) (by decide +kernel) (zsh_at hF rfl).1 (by decide +kernel) rfl ?_
  exact e_goto zd69_147 (tg := 154) rfl k
theorem b69_150 {x : zXs} {F : zF} (hF : zSh F) {d : Nat} {V : Nat → Nat → Int32} {T : Nat → Nat → Int64} {Q : Option Value → zG → Prop}    (k : E x F d 62 0 [some (.ref 45)] [] (V, T) (fun r G' => E x F (d + 1) 69 154 [some (.ref 45)] (r.toList ++ []) G' Q)) : E x F (d + 1) 69 150 [some (.ref 45)] [] (V, T) Q := by
  refine e_aload_n zd69_150 rfl rfl ?_
  exact e_callV zd69_151 (own := 5) (nest := false) (w := 564) (by decide +kernel) (by decide +kernel) zs62 (as := []) (rest := []) rfl rfl (zsh_at hF rfl).1 (by omega) (Nat.le_of_ble_eq_true rfl) rfl rfl rfl (by omega) k
theorem b69_154 {x : zXs} {F : zF} (hF : zSh F) {d : Nat} {V : Nat → Nat → Int32} {T : Nat → Nat → Int64} {Q : Option Value → zG → Prop} {o0 : Option Value}   (k : Q none (V, T)) : E x F d 69 154 [o0] [] (V, T) Q := by
  exact e_vret zd69_154 zs69 k
theorem zd70_0 : zop 70 0 = some (.aload_n 0, 1) := by decide +kernel
theorem zd70_1 : zop 70 1 = some (.getfield 32, 3) := by decide +kernel
theorem zd70_4 : zop 70 4 = some (.bipush 6, 2) := by decide +kernel
theorem zd70_6 : zop 70 6 = some (.if_icmp .lt 6, 3) := by decide +kernel
theorem zd70_9 : zop 70 9 = some (.bipush (-4), 2) := by decide +kernel
theorem zd70_11 : zop 70 11 = some (.ireturn, 1) := by decide +kernel
theorem zd70_12 : zop 70 12 = some (.aload_n 0, 1) := by decide +kernel
theorem zd70_13 : zop 70 13 = some (.getfield 11, 3) := by decide +kernel
theorem zd70_16 : zop 70 16 = some (.aload_n 0, 1) := by decide +kernel
theorem zd70_17 : zop 70 17 = some (.getfield 32, 3) := by decide +kernel
theorem zd70_20 : zop 70 20 = some (.aaload, 1) := by decide +kernel
theorem zd70_21 : zop 70 21 = some (.aload_n 1, 1) := by decide +kernel
theorem zd70_22 : zop 70 22 = some (.invokevirtual 36, 3) := by decide +kernel
theorem zd70_25 : zop 70 25 = some (.aload_n 0, 1) := by decide +kernel
theorem zd70_26 : zop 70 26 = some (.dup, 1) := by decide +kernel
theorem zd70_27 : zop 70 27 = some (.getfield 32, 3) := by decide +kernel
theorem zd70_30 : zop 70 30 = some (.iconst 1, 1) := by decide +kernel
theorem zd70_31 : zop 70 31 = some (.iadd, 1) := by decide +kernel
theorem zd70_32 : zop 70 32 = some (.putfield 32, 3) := by decide +kernel
theorem zd70_35 : zop 70 35 = some (.aload_n 0, 1) := by decide +kernel
theorem zd70_36 : zop 70 36 = some (.getfield 32, 3) := by decide +kernel
theorem zd70_39 : zop 70 39 = some (.iconst 1, 1) := by decide +kernel
theorem zd70_40 : zop 70 40 = some (.isub, 1) := by decide +kernel
theorem zd70_41 : zop 70 41 = some (.ireturn, 1) := by decide +kernel
theorem b70_0 {x : zXs} {F : zF} (hF : zSh F) {d : Nat} {V : Nat → Nat → Int32} {T : Nat → Nat → Int64} {Q : Option Value → zG → Prop} {o1 : Option Value}   (kt : (V 20 3) < (Int32.ofInt 6) → E x F d 70 12 [some (.ref 20), o1] [] (V, T) Q) (kf : ¬ ((V 20 3) < (Int32.ofInt 6)) → E x F d 70 9 [some (.ref 20), o1] [] (V, T) Q) : E x F d 70 0 [some (.ref 20), o1] [] (V, T) Q := by
  refine e_aload_n zd70_0 rfl rfl ?_
  refine e_getI zd70_1 (own := 2) (ci := 2) (kf := 3) (w := 200) (by decide +kernel) (by decide +kernel) (zsh_at hF rfl).1 (by decide +kernel) rfl ?_
  refine e_bipush zd70_4 (v := Int32.ofInt 6) (by decide +kernel) ?_
  exact e_icmp_lt zd70_6 (tg := 12) rfl kt kf
theorem b70_9 {x : zXs} {F : zF} (hF : zSh F) {d : Nat} {V : Nat → Nat → Int32} {T : Nat → Nat → Int64} {Q : Option Value → zG → Prop} {o0 : Option Value} {o1 : Option Value}   (k : Q (some (.int (Int32.ofInt (-4)))) (V, T)) : E x F d 70 9 [o0, o1] [] (V, T) Q := by
  refine e_bipush zd70_9 (v := Int32.ofInt (-4)) (by decide +kernel) ?_
  exact e_ireti zd70_11 zs70 k
theorem b70_12 {x : zXs} {F : zF} (hF : zSh F) {d : Nat} {V : Nat → Nat → Int32} {T : Nat → Nat → Int64} {Q : Option Value → zG → Prop} {l1 : Nat} (hl1 : zTx l1) {i1 : Nat} (e1 : V 20 3 = nI i1) (h1 : i1 < 6) (k : E x F d 71 0 [some (.ref (24 + 3 * i1)), some (.ref l1)] [] (V, T) (fun r G' => E x F (d + 1) 70 25 [some (.ref 20), some (.ref l1)] (r.toList ++ []) G' Q)) : E x F (d + 1) 70 12 [some (.ref 20), some (.ref l1)] [] (V, T) Q := by
  refine e_aload_n zd70_12 rfl rfl ?_
  refine e_getA zd70_13 (own := 2) (ci := 2) (kf := 0) (w := 197) (by decide +kernel) (by decide +kernel) (zsh_at hF rfl).1 (by decide +kernel) rfl (zrf_at hF (i := 25) rfl) ?_
  refine e_aload_n zd70_16 rfl rfl ?_
  refine e_getI zd70_17 (own := 2) (ci := 2) (kf := 3) (w := 200) (by decide +kernel) (by decide +kernel) (zsh_at hF rfl).1 (by decide +kernel) rfl ?_
  refine e_aald zd70_20 (i := i1) (n := 6) ⟨Or.inl (zsh_at hF rfl).1, (zsh_at hF rfl).2⟩ e1 h1 (by omega) (zTxt_at hF h1).1 ?_
  refine e_aload_n zd70_21 rfl rfl ?_
  exact e_callV zd70_22 (own := 2) (nest := false) (w := 602) (by decide +kernel) (by decide +kernel) zs71 (as := [.ref l1]) (rest := []) rfl rfl (zTx_s hF (zTxt_in (i := i1) h1)).1 (by omega) (Nat.le_of_ble_eq_true rfl) rfl rfl rfl (by omega) k
theorem b70_25 {x : zXs} {F : zF} (hF : zSh F) {d : Nat} {V : Nat → Nat → Int32} {T : Nat → Nat → Int64} {Q : Option Value → zG → Prop} {o1 : Option Value}   (k : Q (some (.int (((zu V 20 3 ((V 20 3) + (Int32.ofInt 1))) 20 3) - (Int32.ofInt 1)))) (zu V 20 3 ((V 20 3) + (Int32.ofInt 1)), T)) : E x F d 70 25 [some (.ref 20), o1] [] (V, T) Q := by
  refine e_aload_n zd70_25 rfl rfl ?_
  refine e_dup zd70_26 rfl ?_
  refine e_getI zd70_27 (own := 2) (ci := 2) (kf := 3) (w := 200) (by decide +kernel) (by decide +kernel) (zsh_at hF rfl).1 (by decide +kernel) rfl ?_
  refine e_iconst zd70_30 ?_
  refine e_iadd zd70_31 ?_
  refine e_putI zd70_32 (own := 2) (ci := 2) (kf := 3) (w := 200) (by decide +kernel) (by decide +kernel) (zsh_at hF rfl).1 (by decide +kernel) rfl ?_
  refine e_aload_n zd70_35 rfl rfl ?_
  refine e_getI zd70_36 (own := 2) (ci := 2) (kf := 3) (w := 200) (by decide +kernel) (by decide +kernel) (zsh_at hF rfl).1 (by decide +kernel) rfl ?_
  refine e_iconst zd70_39 ?_
  refine e_isub zd70_40 ?_
  exact e_ireti zd70_41 zs70 k

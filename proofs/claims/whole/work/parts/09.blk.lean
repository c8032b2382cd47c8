/-! Blocks: 5-7,11-17 -/
theorem zs0 : zms 0 = some (7, 2, false, 1, [], true, none) := by rfl
theorem zs1 : zms 1 = some (4, 1, false, 1, [], true, none) := by rfl
theorem zs2 : zms 2 = some (0, 1, false, 1, [], true, none) := by rfl
theorem zs3 : zms 3 = some (2, 2, false, 1, [], true, none) := by rfl
theorem zs4 : zms 4 = some (6, 1, false, 1, [], true, none) := by rfl
theorem zs5 : zms 5 = some (6, 2, false, 2, [], false, none) := by rfl
theorem zs6 : zms 6 = some (6, 2, false, 2, [], false, none) := by rfl
theorem zs7 : zms 7 = some (7, 3, true, 3, [], false, (some .boolean)) := by rfl
theorem zs8 : zms 8 = some (1, 1, false, 1, [], true, none) := by rfl
theorem zs9 : zms 9 = some (5, 1, false, 1, [], true, none) := by rfl
theorem zs10 : zms 10 = some (3, 1, false, 1, [], true, none) := by rfl
theorem zs11 : zms 11 = some (7, 4, false, 4, [], false, (some .int)) := by rfl
theorem zs12 : zms 12 = some (4, 2, false, 2, [], false, (some .boolean)) := by rfl
theorem zs13 : zms 13 = some (4, 2, false, 2, [], false, (some .int)) := by rfl
theorem zs14 : zms 14 = some (4, 2, false, 2, [], false, (some .int)) := by rfl
theorem zs15 : zms 15 = some (9, 1, true, 1, [], false, (some .int)) := by rfl
theorem zs16 : zms 16 = some (7, 4, false, 4, [], false, (some .int)) := by rfl
theorem zs17 : zms 17 = some (7, 3, false, 2, [], false, (some .int)) := by rfl
theorem zs18 : zms 18 = some (7, 5, false, 4, [], false, (some .int)) := by rfl
theorem zs19 : zms 19 = some (4, 2, false, 2, [], false, (some .boolean)) := by rfl
theorem zs20 : zms 20 = some (7, 3, false, 3, [], false, (some .int)) := by rfl
theorem zs21 : zms 21 = some (4, 4, false, 3, [], false, (some .int)) := by rfl
theorem zs22 : zms 22 = some (7, 3, false, 3, [], false, (some .int)) := by rfl
theorem zs23 : zms 23 = some (7, 3, false, 3, [], false, (some .int)) := by rfl
theorem zs24 : zms 24 = some (0, 5, false, 3, [], false, (some .int)) := by rfl
theorem zs25 : zms 25 = some (2, 3, false, 3, [], false, (some .int)) := by rfl
theorem zs26 : zms 26 = some (2, 3, false, 3, [], false, none) := by rfl
theorem zs27 : zms 27 = some (2, 9, false, 3, [], false, (some .int)) := by rfl
theorem zs28 : zms 28 = some (2, 2, true, 2, [], false, (some .int)) := by rfl
theorem zs29 : zms 29 = some (2, 3, true, 3, [], false, (some .int)) := by rfl
theorem zs30 : zms 30 = some (7, 3, true, 3, [], false, (some .int)) := by rfl
theorem zs31 : zms 31 = some (7, 3, false, 3, [], false, (some .int)) := by rfl
theorem zs32 : zms 32 = some (4, 4, false, 2, [], false, (some .int)) := by rfl
theorem zs33 : zms 33 = some (4, 5, false, 2, [], false, (some .int)) := by rfl
theorem zs34 : zms 34 = some (4, 9, false, 3, [], false, (some .int)) := by rfl
theorem zs35 : zms 35 = some (2, 3, false, 3, [], false, (some .int)) := by rfl
theorem zs36 : zms 36 = some (7, 3, false, 3, [], false, (some .int)) := by rfl
theorem zs37 : zms 37 = some (7, 3, false, 3, [], false, (some .int)) := by rfl
theorem zs38 : zms 38 = some (2, 6, false, 6, [], false, (some .int)) := by rfl
theorem zs39 : zms 39 = some (0, 6, false, 5, [], false, (some .int)) := by rfl
theorem zs40 : zms 40 = some (0, 2, true, 2, [], false, (some .int)) := by rfl
theorem zs41 : zms 41 = some (7, 2, false, 2, [], false, (some .int)) := by rfl
theorem zs42 : zms 42 = some (5, 2, false, 2, [], false, (some .boolean)) := by rfl
theorem zs43 : zms 43 = some (7, 2, false, 1, [], false, (some .int)) := by rfl
theorem zs44 : zms 44 = some (5, 2, false, 1, [], false, (some .int)) := by rfl
theorem zs45 : zms 45 = some (6, 1, false, 1, [], false, none) := by rfl
theorem zs46 : zms 46 = some (5, 1, false, 1, [], false, none) := by rfl
theorem zs47 : zms 47 = some (5, 1, true, 1, [], false, (some .boolean)) := by rfl
theorem zs48 : zms 48 = some (5, 2, false, 1, [], false, none) := by rfl
theorem zs49 : zms 49 = some (5, 1, true, 1, [], false, (some (.object "java/lang/String"))) := by rfl
theorem zs50 : zms 50 = some (5, 3, false, 2, [], false, (some .boolean)) := by rfl
theorem zs51 : zms 51 = some (11, 1, false, 1, [], false, (some .int)) := by rfl
theorem zs52 : zms 52 = some (11, 1, false, 1, [], false, (some .byte)) := by rfl
theorem zs53 : zms 53 = some (11, 2, false, 2, [], false, (some .char)) := by rfl
theorem zs54 : zms 54 = some (11, 1, false, 1, [], false, (some .boolean)) := by rfl
theorem zs55 : zms 55 = some (12, 2, true, 2, [], false, (some .char)) := by rfl
theorem zs56 : zms 56 = some (11, 2, true, 2, [], false, none) := by rfl
theorem zs57 : zms 57 = some (14, 3, true, 3, [], false, (some .int)) := by rfl
theorem zs58 : zms 58 = some (5, 1, true, 1, [], false, (some .boolean)) := by rfl
theorem zs59 : zms 59 = some (5, 1, false, 1, [], false, none) := by rfl
theorem zs60 : zms 60 = some (5, 1, true, 1, [], false, (some .boolean)) := by rfl
theorem zs61 : zms 61 = some (5, 2, false, 2, [], false, none) := by rfl
theorem zs62 : zms 62 = some (5, 1, false, 1, [], false, none) := by rfl
theorem zs63 : zms 63 = some (5, 2, false, 1, [], false, none) := by rfl
theorem zs64 : zms 64 = some (5, 2, false, 1, [], false, none) := by rfl
theorem zs65 : zms 65 = some (5, 2, false, 1, [], false, none) := by rfl
theorem zs66 : zms 66 = some (5, 1, false, 1, [], false, (some .boolean)) := by rfl
theorem zs67 : zms 67 = some (5, 3, false, 1, [], false, none) := by rfl
theorem zs68 : zms 68 = some (5, 2, false, 1, [], false, none) := by rfl
theorem zs69 : zms 69 = some (5, 1, false, 1, [], false, none) := by rfl
theorem zs70 : zms 70 = some (2, 2, false, 2, [], false, (some .int)) := by rfl
theorem zs71 : zms 71 = some (6, 2, false, 2, [], false, none) := by rfl
theorem zs72 : zms 72 = some (7, 3, false, 2, [], false, (some .int)) := by rfl
theorem zs73 : zms 73 = some (7, 3, false, 3, [], false, (some .int)) := by rfl
theorem zs74 : zms 74 = some (0, 14, false, 4, [], false, (some .int)) := by rfl
theorem zs75 : zms 75 = some (0, 5, false, 5, [], false, none) := by rfl
theorem zs76 : zms 76 = some (7, 3, false, 3, [], false, (some .int)) := by rfl
theorem zs77 : zms 77 = some (1, 7, false, 3, [], false, (some .boolean)) := by rfl
theorem zs78 : zms 78 = some (0, 9, false, 5, [], false, (some .int)) := by rfl
theorem zs79 : zms 79 = some (7, 1, false, 1, [], false, (some .int)) := by rfl
theorem zs80 : zms 80 = some (0, 4, false, 2, [], false, none) := by rfl
theorem zs81 : zms 81 = some (4, 3, false, 1, [], false, (some .int)) := by rfl
theorem zs82 : zms 82 = some (7, 5, false, 4, [], false, (some .int)) := by rfl
theorem zs83 : zms 83 = some (4, 2, false, 2, [], false, none) := by rfl
theorem zs84 : zms 84 = some (7, 6, false, 5, [], false, (some .int)) := by rfl
theorem zs85 : zms 85 = some (7, 2, false, 2, [], false, none) := by rfl
theorem zs86 : zms 86 = some (1, 3, false, 2, [], false, none) := by rfl
theorem zs87 : zms 87 = some (7, 9, false, 4, [], false, (some .int)) := by rfl
theorem zs88 : zms 88 = some (1, 3, false, 1, [], false, (some .int)) := by rfl
theorem zs89 : zms 89 = some (1, 5, false, 1, [], false, (some .boolean)) := by rfl
theorem zs90 : zms 90 = some (1, 4, false, 3, [], false, none) := by rfl
theorem zs91 : zms 91 = some (7, 3, false, 3, [], false, (some .int)) := by rfl
theorem zs92 : zms 92 = some (7, 8, false, 3, [], false, (some .int)) := by rfl
theorem zs93 : zms 93 = some (7, 7, false, 3, [], false, (some .int)) := by rfl
theorem zs94 : zms 94 = some (7, 3, false, 2, [], false, (some .int)) := by rfl
theorem zs95 : zms 95 = some (7, 7, false, 3, [], false, (some .int)) := by rfl
theorem zs96 : zms 96 = some (7, 7, false, 1, [], false, (some .int)) := by rfl
theorem zs97 : zms 97 = some (7, 4, false, 2, [], false, (some .long)) := by rfl
theorem zs98 : zms 98 = some (7, 4, true, 3, [], false, (some .long)) := by rfl
theorem zs99 : zms 99 = some (7, 6, true, 2, [], false, (some .int)) := by rfl
theorem zs100 : zms 100 = some (7, 6, false, 5, [], false, (some .int)) := by rfl
theorem zs101 : zms 101 = some (7, 2, false, 2, [], false, (some .boolean)) := by rfl
theorem zs102 : zms 102 = some (3, 1, false, 1, [], false, (some .boolean)) := by rfl
theorem zs103 : zms 103 = some (7, 5, false, 4, [], false, (some .int)) := by rfl
theorem zs104 : zms 104 = some (7, 6, false, 4, [], false, (some .int)) := by rfl
theorem zs105 : zms 105 = some (7, 2, true, 2, [], false, (some .int)) := by rfl
theorem zs106 : zms 106 = some (7, 6, false, 4, [], false, (some .int)) := by rfl
theorem zs107 : zms 107 = some (7, 8, false, 5, [], false, (some .int)) := by rfl
theorem zs108 : zms 108 = some (7, 6, false, 4, [], false, (some .int)) := by rfl
theorem zs109 : zms 109 = some (7, 5, false, 3, [], false, (some .int)) := by rfl
theorem zs110 : zms 110 = some (7, 5, false, 3, [], false, (some .int)) := by rfl
theorem zs111 : zms 111 = some (7, 6, false, 4, [], false, (some .int)) := by rfl
theorem zs112 : zms 112 = some (3, 3, false, 3, [], false, none) := by rfl
theorem zs113 : zms 113 = some (13, 4, true, 2, [], false, none) := by rfl
theorem zs114 : zms 114 = some (3, 3, false, 3, [], false, (some .boolean)) := by rfl
theorem zs115 : zms 115 = some (3, 3, false, 3, [], false, (some .boolean)) := by rfl
theorem zs116 : zms 116 = some (7, 3, false, 3, [], false, (some .int)) := by rfl
theorem zs117 : zms 117 = some (7, 6, false, 3, [], false, (some .int)) := by rfl
theorem zs118 : zms 118 = some (7, 8, false, 6, [], false, (some .long)) := by rfl
theorem zs119 : zms 119 = some (7, 1, false, 1, [], false, (some .int)) := by rfl
theorem zs120 : zms 120 = some (7, 1, false, 1, [], false, (some .int)) := by rfl
theorem zs121 : zms 121 = some (7, 2, false, 2, [], false, (some .int)) := by rfl
theorem zs122 : zms 122 = some (7, 4, false, 4, [], false, (some .int)) := by rfl
theorem zs123 : zms 123 = some (7, 5, false, 4, [], false, (some .int)) := by rfl
theorem zs124 : zms 124 = some (7, 8, false, 6, [], false, (some .int)) := by rfl
theorem zs125 : zms 125 = some (7, 9, false, 5, [], false, (some .int)) := by rfl
theorem zs126 : zms 126 = some (7, 3, false, 3, [], false, (some .int)) := by rfl
theorem zs127 : zms 127 = some (7, 4, true, 2, [], false, (some .boolean)) := by rfl
theorem zs128 : zms 128 = some (8, 1, false, 1, [], true, none) := by rfl
theorem zs129 : zms 129 = some (8, 10, false, 10, [], false, none) := by rfl
theorem zs130 : zms 130 = some (8, 4, false, 4, [], false, (some .int)) := by rfl
theorem zs131 : zms 131 = some (8, 1, true, 1, [], false, (some .boolean)) := by rfl
theorem zs132 : zms 132 = some (8, 6, true, 3, [0, 2, 4], false, (some .boolean)) := by rfl
theorem zs133 : zms 133 = some (8, 2, false, 2, [], false, (some .int)) := by rfl
theorem zs134 : zms 134 = some (8, 3, true, 1, [], false, (some .int)) := by rfl
theorem zs135 : zms 135 = some (8, 5, false, 4, [], false, (some .int)) := by rfl
theorem zs136 : zms 136 = some (8, 2, false, 2, [], false, (some .boolean)) := by rfl
theorem zs137 : zms 137 = some (8, 1, true, 1, [], false, (some .int)) := by rfl
theorem zs138 : zms 138 = some (8, 3, false, 3, [], false, (some .int)) := by rfl
theorem zs139 : zms 139 = some (8, 6, false, 2, [], false, (some .int)) := by rfl
theorem zs140 : zms 140 = some (8, 7, false, 7, [], false, (some .int)) := by rfl
theorem zs141 : zms 141 = some (8, 6, false, 3, [], false, (some .int)) := by rfl
theorem zs142 : zms 142 = some (8, 3, false, 1, [], false, none) := by rfl
theorem zs143 : zms 143 = some (8, 2, false, 2, [], false, (some .int)) := by rfl
theorem zs144 : zms 144 = some (8, 9, false, 9, [], false, (some .boolean)) := by rfl
theorem zs145 : zms 145 = some (8, 3, false, 3, [], false, (some .boolean)) := by rfl
theorem zs146 : zms 146 = some (8, 3, false, 2, [], false, (some .int)) := by rfl
theorem zs147 : zms 147 = some (8, 1, false, 1, [], false, none) := by rfl
theorem zs148 : zms 148 = some (8, 3, false, 1, [], false, (some .int)) := by rfl
theorem zs149 : zms 149 = some (8, 3, false, 1, [], false, (some .int)) := by rfl
theorem zs150 : zms 150 = some (8, 4, false, 1, [], false, (some .int)) := by rfl
theorem zs151 : zms 151 = some (8, 1, false, 1, [], false, (some .boolean)) := by rfl
theorem zs152 : zms 152 = some (8, 4, false, 1, [], false, (some .int)) := by rfl
theorem zs153 : zms 153 = some (8, 2, false, 1, [], false, (some .int)) := by rfl
theorem zs154 : zms 154 = some (8, 2, false, 1, [], false, (some .int)) := by rfl
theorem zs155 : zms 155 = some (8, 2, false, 2, [], false, (some .boolean)) := by rfl
theorem zs156 : zms 156 = some (8, 1, false, 1, [], false, (some .int)) := by rfl
theorem zs157 : zms 157 = some (8, 3, true, 3, [], false, (some .int)) := by rfl
theorem zs158 : zms 158 = some (8, 4, false, 2, [], false, (some .int)) := by rfl
theorem zs159 : zms 159 = some (8, 3, false, 3, [], false, (some .boolean)) := by rfl
theorem zs160 : zms 160 = some (8, 5, false, 2, [], false, (some .int)) := by rfl
theorem zs161 : zms 161 = some (8, 2, false, 2, [], false, (some .int)) := by rfl
theorem zs162 : zms 162 = some (8, 4, false, 4, [], false, none) := by rfl
theorem zs163 : zms 163 = some (8, 3, false, 3, [], false, (some .int)) := by rfl
theorem zs164 : zms 164 = some (8, 2, false, 2, [], false, (some .int)) := by rfl
theorem zs165 : zms 165 = some (8, 2, false, 1, [], false, (some .int)) := by rfl
theorem zs166 : zms 166 = some (8, 3, false, 2, [], false, (some .int)) := by rfl
theorem zs167 : zms 167 = some (8, 3, false, 3, [], false, (some .int)) := by rfl
theorem zs168 : zms 168 = some (8, 3, false, 3, [], false, (some .int)) := by rfl
theorem zs169 : zms 169 = some (8, 9, false, 5, [], false, (some .int)) := by rfl
theorem zs170 : zms 170 = some (8, 3, false, 3, [], false, (some .int)) := by rfl
theorem zs171 : zms 171 = some (8, 8, false, 3, [], false, (some .int)) := by rfl
theorem zs172 : zms 172 = some (8, 5, false, 4, [], false, none) := by rfl
theorem zs173 : zms 173 = some (8, 4, false, 3, [], false, (some .int)) := by rfl
theorem zs174 : zms 174 = some (8, 5, false, 2, [], false, (some .boolean)) := by rfl
theorem zs175 : zms 175 = some (8, 1, false, 1, [], false, (some .int)) := by rfl
theorem zs176 : zms 176 = some (8, 2, false, 1, [], false, none) := by rfl
theorem zs177 : zms 177 = some (8, 1, false, 1, [], false, (some .int)) := by rfl
theorem zs178 : zms 178 = some (8, 4, false, 4, [], false, (some .int)) := by rfl
theorem zs179 : zms 179 = some (8, 6, false, 4, [], false, (some .int)) := by rfl
theorem zs180 : zms 180 = some (8, 2, false, 1, [], false, none) := by rfl
theorem zs181 : zms 181 = some (8, 2, false, 1, [], false, none) := by rfl
theorem zs182 : zms 182 = some (8, 6, false, 5, [], false, (some .int)) := by rfl
theorem zs183 : zms 183 = some (8, 5, false, 3, [], false, none) := by rfl
theorem zs184 : zms 184 = some (8, 4, false, 4, [], false, (some .int)) := by rfl
theorem zs185 : zms 185 = some (8, 11, false, 6, [], false, none) := by rfl
theorem zs186 : zms 186 = some (8, 3, false, 3, [], false, (some .int)) := by rfl
theorem zs187 : zms 187 = some (8, 3, false, 2, [], false, (some .int)) := by rfl
theorem zs188 : zms 188 = some (8, 7, false, 3, [], false, (some .int)) := by rfl
theorem zs189 : zms 189 = some (8, 7, false, 3, [], false, (some .int)) := by rfl
theorem zs190 : zms 190 = some (8, 6, false, 1, [], false, (some .int)) := by rfl
theorem zs191 : zms 191 = some (8, 3, false, 2, [], false, (some .long)) := by rfl
theorem zs192 : zms 192 = some (8, 11, true, 3, [0, 2, 5, 7, 9], false, (some .long)) := by rfl
theorem zs193 : zms 193 = some (8, 12, false, 5, [], false, (some .int)) := by rfl
theorem zs194 : zms 194 = some (8, 1, true, 1, [], false, (some .boolean)) := by rfl
theorem zs195 : zms 195 = some (8, 5, false, 4, [], false, (some .int)) := by rfl
theorem zs196 : zms 196 = some (8, 5, false, 3, [], false, (some .int)) := by rfl
theorem zs197 : zms 197 = some (8, 5, false, 3, [], false, (some .int)) := by rfl
theorem zs198 : zms 198 = some (8, 6, false, 4, [], false, (some .int)) := by rfl
theorem zs199 : zms 199 = some (8, 5, false, 4, [], false, (some .int)) := by rfl
theorem zs200 : zms 200 = some (8, 3, false, 3, [], false, (some .int)) := by rfl
theorem zs201 : zms 201 = some (8, 5, false, 3, [], false, (some .int)) := by rfl
theorem zs202 : zms 202 = some (8, 9, false, 6, [6], false, (some .long)) := by rfl
theorem zs203 : zms 203 = some (8, 2, false, 1, [], false, (some .int)) := by rfl
theorem zs204 : zms 204 = some (8, 2, false, 1, [], false, (some .int)) := by rfl
theorem zs205 : zms 205 = some (8, 2, false, 2, [], false, (some .int)) := by rfl
theorem zs206 : zms 206 = some (8, 4, false, 4, [], false, (some .int)) := by rfl
theorem zs207 : zms 207 = some (8, 9, false, 6, [], false, (some .int)) := by rfl
theorem zs208 : zms 208 = some (8, 8, false, 5, [], false, (some .int)) := by rfl
theorem zs209 : zms 209 = some (8, 4, false, 3, [], false, (some .int)) := by rfl
theorem zs210 : zms 210 = some (8, 1, true, 1, [], false, (some .int)) := by rfl
theorem zs211 : zms 211 = some (15, 4, true, 1, [], false, (some .boolean)) := by rfl
theorem zTxt_at {F : zF} (hF : zSh F) {i : Nat} (h : i < 6) : zrf F 21 i = some (24 + 3 * i) ∧ zTx (24 + 3 * i) := by
  rcases (show i = 0 ∨ i = 1 ∨ i = 2 ∨ i = 3 ∨ i = 4 ∨ i = 5 by omega) with rfl | rfl | rfl | rfl | rfl | rfl
  · exact ⟨zrf_at hF (i := 28) rfl, by simp [zTx]⟩
  · exact ⟨zrf_at hF (i := 29) rfl, by simp [zTx]⟩
  · exact ⟨zrf_at hF (i := 30) rfl, by simp [zTx]⟩
  · exact ⟨zrf_at hF (i := 31) rfl, by simp [zTx]⟩
  · exact ⟨zrf_at hF (i := 32) rfl, by simp [zTx]⟩
  · exact ⟨zrf_at hF (i := 33) rfl, by simp [zTx]⟩
theorem zTxt_in {i : Nat} (h : i < 6) : zTx (24 + 3 * i) := by
  unfold zTx
  omega
theorem zSht_at {F : zF} (hF : zSh F) {i : Nat} (h : i < 4) : zrf F 50 i = some (51 + 2 * i) ∧ zSt4 (51 + 2 * i) := by
  rcases (show i = 0 ∨ i = 1 ∨ i = 2 ∨ i = 3 by omega) with rfl | rfl | rfl | rfl
  · exact ⟨zrf_at hF (i := 51) rfl, by simp [zSt4]⟩
  · exact ⟨zrf_at hF (i := 52) rfl, by simp [zSt4]⟩
  · exact ⟨zrf_at hF (i := 53) rfl, by simp [zSt4]⟩
  · exact ⟨zrf_at hF (i := 54) rfl, by simp [zSt4]⟩
theorem zSht_in {i : Nat} (h : i < 4) : zSt4 (51 + 2 * i) := by
  unfold zSt4
  omega
theorem zsw_out {a : Int32} {lo hi : Int} (h1 : -1000000 ≤ lo) (h2 : hi ≤ 1000000) (h : ∀ v : Int, lo ≤ v → v ≤ hi → a = Int32.ofInt v → False) : a.toInt < lo ∨ hi < a.toInt := by
  by_cases hh : a.toInt < lo ∨ hi < a.toInt
  · exact hh
  · exfalso
    refine h a.toInt (by omega) (by omega) ?_
    exact (Int32.ofInt_toInt a).symm
theorem zd5_0 : zop 5 0 = some (.aload_n 0, 1) := by decide +kernel
theorem zd5_1 : zop 5 1 = some (.getfield 18, 3) := by decide +kernel
theorem zd5_4 : zop 5 4 = some (.sipush 160, 3) := by decide +kernel
theorem zd5_7 : zop 5 7 = some (.if_icmp .ge 23, 3) := by decide +kernel
theorem zd5_10 : zop 5 10 = some (.aload_n 0, 1) := by decide +kernel
theorem zd5_11 : zop 5 11 = some (.getfield 9, 3) := by decide +kernel
theorem zd5_14 : zop 5 14 = some (.aload_n 0, 1) := by decide +kernel
theorem zd5_15 : zop 5 15 = some (.getfield 18, 3) := by decide +kernel
theorem zd5_18 : zop 5 18 = some (.iload_n 1, 1) := by decide +kernel
theorem zd5_19 : zop 5 19 = some (.iastore, 1) := by decide +kernel
theorem zd5_20 : zop 5 20 = some (.aload_n 0, 1) := by decide +kernel
theorem zd5_21 : zop 5 21 = some (.dup, 1) := by decide +kernel
theorem zd5_22 : zop 5 22 = some (.getfield 18, 3) := by decide +kernel
theorem zd5_25 : zop 5 25 = some (.iconst 1, 1) := by decide +kernel
theorem zd5_26 : zop 5 26 = some (.iadd, 1) := by decide +kernel
theorem zd5_27 : zop 5 27 = some (.putfield 18, 3) := by decide +kernel
theorem zd5_30 : zop 5 30 = some (.return_, 1) := by decide +kernel
theorem b5_0 {x : zXs} {F : zF} (hF : zSh F) {d : Nat} {V : Nat → Nat → Int32} {T : Nat → Nat → Int64} {Q : Option Value → zG → Prop} {l0 : Nat} {o1 : Option Value} (hl0 : zTx l0)  (kt : (Int32.ofInt 160) ≤ (V l0 2) → E x F d 5 30 [some (.ref l0), o1] [] (V, T) Q) (kf : ¬ ((Int32.ofInt 160) ≤ (V l0 2)) → E x F d 5 10 [some (.ref l0), o1] [] (V, T) Q) : E x F d 5 0 [some (.ref l0), o1] [] (V, T) Q := by
  refine e_aload_n zd5_0 rfl rfl ?_
  refine e_getI zd5_1 (own := 6) (ci := 6) (kf := 2) (w := 178) (by decide +kernel) (by decide +kernel) (zTx_s hF hl0).1 (by decide +kernel) rfl ?_
  refine e_sipush zd5_4 (v := Int32.ofInt 160) (by decide +kernel) ?_
  exact e_icmp_ge zd5_7 (tg := 30) rfl kt kf
theorem b5_10 {x : zXs} {F : zF} (hF : zSh F) {d : Nat} {V : Nat → Nat → Int32} {T : Nat → Nat → Int64} {Q : Option Value → zG → Prop} {l0 : Nat} {l1 : Int32} (hl0 : zTx l0) {i1 : Nat} (e1 : V l0 2 = nI i1) (h1 : i1 < 160) (k : E x F d 5 30 [some (.ref l0), some (.int l1)] [] (zu (zu V (l0 + 1) i1 l1) l0 2 (((zu V (l0 + 1) i1 l1) l0 2) + (Int32.ofInt 1)), T) Q) : E x F d 5 10 [some (.ref l0), some (.int l1)] [] (V, T) Q := by
  refine e_aload_n zd5_10 rfl rfl ?_
  refine e_getA zd5_11 (own := 6) (ci := 6) (kf := 0) (w := 174) (by decide +kernel) (by decide +kernel) (zTx_s hF hl0).1 (by decide +kernel) rfl (zTx_f0 hF hl0) ?_
  refine e_aload_n zd5_14 rfl rfl ?_
  refine e_getI zd5_15 (own := 6) (ci := 6) (kf := 2) (w := 178) (by decide +kernel) (by decide +kernel) (zTx_s hF hl0).1 (by decide +kernel) rfl ?_
  refine e_iload_n zd5_18 rfl ?_
  refine e_iast zd5_19 (i := i1) (zTx_a0 hF hl0) e1 h1 (by omega) ?_
  refine e_aload_n zd5_20 rfl rfl ?_
  refine e_dup zd5_21 rfl ?_
  refine e_getI zd5_22 (own := 6) (ci := 6) (kf := 2) (w := 178) (by decide +kernel) (by decide +kernel) (zTx_s hF hl0).1 (by decide +kernel) rfl ?_
  refine e_iconst zd5_25 ?_
  refine e_iadd zd5_26 ?_
  refine e_putI zd5_27 (own := 6) (ci := 6) (kf := 2) (w := 178) (by decide +kernel) (by decide +kernel) (zTx_s hF hl0).1 (by decide +kernel) rfl ?_
  exact k
theorem b5_30 {x : zXs} {F : zF} (hF : zSh F) {d : Nat} {V : Nat → Nat → Int32} {T : Nat → Nat → Int64} {Q : Option Value → zG → Prop} {o0 : Option Value} {o1 : Option Value}   (k : Q none (V, T)) : E x F d 5 30 [o0, o1] [] (V, T) Q := by
  exact e_vret zd5_30 zs5 k
theorem zd6_0 : zop 6 0 = some (.iload_n 1, 1) := by decide +kernel
theorem zd6_1 : zop 6 1 = some (.iconst 0, 1) := by decide +kernel
theorem zd6_2 : zop 6 2 = some (.iconst 2, 1) := by decide +kernel
theorem zd6_3 : zop 6 3 = some (.invokestatic 22, 3) := by decide +kernel
theorem zd6_6 : zop 6 6 = some (.ifCond .eq 13, 3) := by decide +kernel
theorem zd6_9 : zop 6 9 = some (.aload_n 0, 1) := by decide +kernel
theorem zd6_10 : zop 6 10 = some (.getfield 15, 3) := by decide +kernel
theorem zd6_13 : zop 6 13 = some (.iload_n 1, 1) := by decide +kernel
theorem zd6_14 : zop 6 14 = some (.aload_n 0, 1) := by decide +kernel
theorem zd6_15 : zop 6 15 = some (.getfield 18, 3) := by decide +kernel
theorem zd6_18 : zop 6 18 = some (.iastore, 1) := by decide +kernel
theorem zd6_19 : zop 6 19 = some (.return_, 1) := by decide +kernel
theorem b6_0 {x : zXs} {F : zF} (hF : zSh F) {d : Nat} {V : Nat → Nat → Int32} {T : Nat → Nat → Int64} {Q : Option Value → zG → Prop} {o0 : Option Value} {l1 : Int32}   (k : E x F d 7 0 [some (.int l1), some (.int (Int32.ofInt 0)), some (.int (Int32.ofInt 2))] [] (V, T) (fun r G' => E x F (d + 1) 6 6 [o0, some (.int l1)] (r.toList ++ []) G' Q)) : E x F (d + 1) 6 0 [o0, some (.int l1)] [] (V, T) Q := by
  refine e_iload_n zd6_0 rfl ?_
  refine e_iconst zd6_1 ?_
  refine e_iconst zd6_2 ?_
  exact e_callS zd6_3 (own := 6) (nest := true) (w := 194) (by decide +kernel) (by decide +kernel) zs7 (as := [.int l1, .int (Int32.ofInt 0), .int (Int32.ofInt 2)]) (rest := []) rfl rfl (Nat.le_of_ble_eq_true rfl) rfl rfl rfl (by omega) k
theorem b6_6 {x : zXs} {F : zF} (hF : zSh F) {d : Nat} {V : Nat → Nat → Int32} {T : Nat → Nat → Int64} {Q : Option Value → zG → Prop} {o0 : Option Value} {o1 : Option Value} {s0 : Int32}   (kt : s0 = 0 → E x F d 6 19 [o0, o1] [] (V, T) Q) (kf : ¬ (s0 = 0) → E x F d 6 9 [o0, o1] [] (V, T) Q) : E x F d 6 6 [o0, o1] [.int s0] (V, T) Q := by
  exact e_if_eq zd6_6 (tg := 19) rfl kt kf
theorem b6_9 {x : zXs} {F : zF} (hF : zSh F) {d : Nat} {V : Nat → Nat → Int32} {T : Nat → Nat → Int64} {Q : Option Value → zG → Prop} {l0 : Nat} {l1 : Int32} (hl0 : zTx l0) {i1 : Nat} (e1 : l1 = nI i1) (h1 : i1 < 3) (k : E x F d 6 19 [some (.ref l0), some (.int l1)] [] (zu V (l0 + 2) i1 (V l0 2), T) Q) : E x F d 6 9 [some (.ref l0), some (.int l1)] [] (V, T) Q := by
  refine e_aload_n zd6_9 rfl rfl ?_
  refine e_getA zd6_10 (own := 6) (ci := 6) (kf := 1) (w := 176) (by decide +kernel) (by decide +kernel) (zTx_s hF hl0).1 (by decide +kernel) rfl (zTx_f1 hF hl0) ?_
  refine e_iload_n zd6_13 rfl ?_
  refine e_aload_n zd6_14 rfl rfl ?_
  refine e_getI zd6_15 (own := 6) (ci := 6) (kf := 2) (w := 178) (by decide +kernel) (by decide +kernel) (zTx_s hF hl0).1 (by decide +kernel) rfl ?_
  refine e_iast zd6_18 (i := i1) (zTx_a1 hF hl0) e1 h1 (by omega) ?_
  exact k
theorem b6_19 {x : zXs} {F : zF} (hF : zSh F) {d : Nat} {V : Nat → Nat → Int32} {T : Nat → Nat → Int64} {Q : Option Value → zG → Prop} {o0 : Option Value} {o1 : Option Value}   (k : Q none (V, T)) : E x F d 6 19 [o0, o1] [] (V, T) Q := by
  exact e_vret zd6_19 zs6 k
theorem zd7_0 : zop 7 0 = some (.iload_n 0, 1) := by decide +kernel
theorem zd7_1 : zop 7 1 = some (.iload_n 1, 1) := by decide +kernel
theorem zd7_2 : zop 7 2 = some (.if_icmp .lt 12, 3) := by decide +kernel
theorem zd7_5 : zop 7 5 = some (.iload_n 0, 1) := by decide +kernel
theorem zd7_6 : zop 7 6 = some (.iload_n 2, 1) := by decide +kernel
theorem zd7_7 : zop 7 7 = some (.if_icmp .gt 7, 3) := by decide +kernel
theorem zd7_10 : zop 7 10 = some (.iconst 1, 1) := by decide +kernel
theorem zd7_11 : zop 7 11 = some (.goto 4, 3) := by decide +kernel
theorem zd7_14 : zop 7 14 = some (.iconst 0, 1) := by decide +kernel
theorem zd7_15 : zop 7 15 = some (.ireturn, 1) := by decide +kernel
theorem b7_0 {x : zXs} {F : zF} (hF : zSh F) {d : Nat} {V : Nat → Nat → Int32} {T : Nat → Nat → Int64} {Q : Option Value → zG → Prop} {l0 : Int32} {l1 : Int32} {o2 : Option Value}   (kt : l0 < l1 → E x F d 7 14 [some (.int l0), some (.int l1), o2] [] (V, T) Q) (kf : ¬ (l0 < l1) → E x F d 7 5 [some (.int l0), some (.int l1), o2] [] (V, T) Q) : E x F d 7 0 [some (.int l0), some (.int l1), o2] [] (V, T) Q := by
  refine e_iload_n zd7_0 rfl ?_
  refine e_iload_n zd7_1 rfl ?_
  exact e_icmp_lt zd7_2 (tg := 14) rfl kt kf
theorem b7_5 {x : zXs} {F : zF} (hF : zSh F) {d : Nat} {V : Nat → Nat → Int32} {T : Nat → Nat → Int64} {Q : Option Value → zG → Prop} {l0 : Int32} {o1 : Option Value} {l2 : Int32}   (kt : l2 < l0 → E x F d 7 14 [some (.int l0), o1, some (.int l2)] [] (V, T) Q) (kf : ¬ (l2 < l0) → E x F d 7 10 [some (.int l0), o1, some (.int l2)] [] (V, T) Q) : E x F d 7 5 [some (.int l0), o1, some (.int l2)] [] (V, T) Q := by
  refine e_iload_n zd7_5 rfl ?_
  refine e_iload_n zd7_6 rfl ?_
  exact e_icmp_gt zd7_7 (tg := 14) rfl kt kf
theorem b7_10 {x : zXs} {F : zF} (hF : zSh F) {d : Nat} {V : Nat → Nat → Int32} {T : Nat → Nat → Int64} {Q : Option Value → zG → Prop} {o0 : Option Value} {o1 : Option Value} {o2 : Option Value}   (k : E x F d 7 15 [o0, o1, o2] [.int (Int32.ofInt 1)] (V, T) Q) : E x F d 7 10 [o0, o1, o2] [] (V, T) Q := by
  refine e_iconst zd7_10 ?_
  exact e_goto zd7_11 (tg := 15) rfl k
theorem b7_14 {x : zXs} {F : zF} (hF : zSh F) {d : Nat} {V : Nat → Nat → Int32} {T : Nat → Nat → Int64} {Q : Option Value → zG → Prop} {o0 : Option Value} {o1 : Option Value} {o2 : Option Value}   (k : E x F d 7 15 [o0, o1, o2] [.int (Int32.ofInt 0)] (V, T) Q) : E x F d 7 14 [o0, o1, o2] [] (V, T) Q := by
  refine e_iconst zd7_14 ?_
  exact k
theorem b7_15 {x : zXs} {F : zF} (hF : zSh F) {d : Nat} {V : Nat → Nat → Int32} {T : Nat → Nat → Int64} {Q : Option Value → zG → Prop} {o0 : Option Value} {o1 : Option Value} {o2 : Option Value} {s0 : Int32}  (b1 : narrow .boolean (.int s0) = .int s0) (k : Q (some (.int s0)) (V, T)) : E x F d 7 15 [o0, o1, o2] [.int s0] (V, T) Q := by
  exact e_iretz zd7_15 zs7 b1 k
theorem zd11_0 : zop 11 0 = some (.aload_n 0, 1) := by decide +kernel
theorem zd11_1 : zop 11 1 = some (.getfield 10, 3) := by decide +kernel
theorem zd11_4 : zop 11 4 = some (.iload_n 1, 1) := by decide +kernel
theorem zd11_5 : zop 11 5 = some (.invokevirtual 55, 3) := by decide +kernel
theorem zd11_8 : zop 11 8 = some (.ifCond .eq 26, 3) := by decide +kernel
theorem zd11_11 : zop 11 11 = some (.iload_n 2, 1) := by decide +kernel
theorem zd11_12 : zop 11 12 = some (.iconst 0, 1) := by decide +kernel
theorem zd11_13 : zop 11 13 = some (.bipush 24, 2) := by decide +kernel
theorem zd11_15 : zop 11 15 = some (.invokestatic 59, 3) := by decide +kernel
theorem zd11_18 : zop 11 18 = some (.ifCond .eq 16, 3) := by decide +kernel
theorem zd11_21 : zop 11 21 = some (.iload_n 3, 1) := by decide +kernel
theorem zd11_22 : zop 11 22 = some (.iconst 0, 1) := by decide +kernel
theorem zd11_23 : zop 11 23 = some (.iconst 1, 1) := by decide +kernel
theorem zd11_24 : zop 11 24 = some (.iload_n 2, 1) := by decide +kernel
theorem zd11_25 : zop 11 25 = some (.ishl, 1) := by decide +kernel
theorem zd11_26 : zop 11 26 = some (.iconst 1, 1) := by decide +kernel
theorem zd11_27 : zop 11 27 = some (.isub, 1) := by decide +kernel
theorem zd11_28 : zop 11 28 = some (.invokestatic 59, 3) := by decide +kernel
theorem zd11_31 : zop 11 31 = some (.ifCond .ne 6, 3) := by decide +kernel
theorem zd11_34 : zop 11 34 = some (.bipush (-2), 2) := by decide +kernel
theorem zd11_36 : zop 11 36 = some (.ireturn, 1) := by decide +kernel
theorem zd11_37 : zop 11 37 = some (.aload_n 0, 1) := by decide +kernel
theorem zd11_38 : zop 11 38 = some (.getfield 10, 3) := by decide +kernel
theorem zd11_41 : zop 11 41 = some (.getfield 63, 3) := by decide +kernel
theorem zd11_44 : zop 11 44 = some (.iload_n 1, 1) := by decide +kernel
theorem zd11_45 : zop 11 45 = some (.iload_n 2, 1) := by decide +kernel
theorem zd11_46 : zop 11 46 = some (.iastore, 1) := by decide +kernel
theorem zd11_47 : zop 11 47 = some (.aload_n 0, 1) := by decide +kernel
theorem zd11_48 : zop 11 48 = some (.getfield 10, 3) := by decide +kernel
theorem zd11_51 : zop 11 51 = some (.getfield 67, 3) := by decide +kernel
theorem zd11_54 : zop 11 54 = some (.iload_n 1, 1) := by decide +kernel
theorem zd11_55 : zop 11 55 = some (.iload_n 3, 1) := by decide +kernel
theorem zd11_56 : zop 11 56 = some (.iastore, 1) := by decide +kernel
theorem zd11_57 : zop 11 57 = some (.aload_n 0, 1) := by decide +kernel
theorem zd11_58 : zop 11 58 = some (.getfield 10, 3) := by decide +kernel
theorem zd11_61 : zop 11 61 = some (.iload_n 1, 1) := by decide +kernel
theorem zd11_62 : zop 11 62 = some (.invokevirtual 70, 3) := by decide +kernel
theorem zd11_65 : zop 11 65 = some (.ireturn, 1) := by decide +kernel
theorem b11_0 {x : zXs} {F : zF} (hF : zSh F) {d : Nat} {V : Nat → Nat → Int32} {T : Nat → Nat → Int64} {Q : Option Value → zG → Prop} {l1 : Int32} {o2 : Option Value} {o3 : Option Value}   (k : E x F d 12 0 [some (.ref 1), some (.int l1)] [] (V, T) (fun r G' => E x F (d + 1) 11 8 [some (.ref 0), some (.int l1), o2, o3] (r.toList ++ []) G' Q)) : E x F (d + 1) 11 0 [some (.ref 0), some (.int l1), o2, o3] [] (V, T) Q := by
  refine e_aload_n zd11_0 rfl rfl ?_
  refine e_getO zd11_1 (own := 7) (ci := 7) (kf := 0) (w := 297) (by decide +kernel) (by decide +kernel) (zsh_at hF rfl).1 (by decide +kernel) rfl (zrf_at hF (i := 0) rfl) ?_
  refine e_iload_n zd11_4 rfl ?_
  exact e_callV zd11_5 (own := 7) (nest := false) (w := 329) (by decide +kernel) (by decide +kernel) zs12 (as := [.int l1]) (rest := []) rfl rfl (zsh_at hF rfl).1 (by omega) (Nat.le_of_ble_eq_true rfl) rfl rfl rfl (by omega) k
theorem b11_8 {x : zXs} {F : zF} (hF : zSh F) {d : Nat} {V : Nat → Nat → Int32} {T : Nat → Nat → Int64} {Q : Option Value → zG → Prop} {o0 : Option Value} {o1 : Option Value} {o2 : Option Value} {o3 : Option Value} {s0 : Int32}   (kt : s0 = 0 → E x F d 11 34 [o0, o1, o2, o3] [] (V, T) Q) (kf : ¬ (s0 = 0) → E x F d 11 11 [o0, o1, o2, o3] [] (V, T) Q) : E x F d 11 8 [o0, o1, o2, o3] [.int s0] (V, T) Q := by
  exact e_if_eq zd11_8 (tg := 34) rfl kt kf
theorem b11_11 {x : zXs} {F : zF} (hF : zSh F) {d : Nat} {V : Nat → Nat → Int32} {T : Nat → Nat → Int64} {Q : Option Value → zG → Prop} {o0 : Option Value} {o1 : Option Value} {l2 : Int32} {o3 : Option Value}   (k : E x F d 7 0 [some (.int l2), some (.int (Int32.ofInt 0)), some (.int (Int32.ofInt 24))] [] (V, T) (fun r G' => E x F (d + 1) 11 18 [o0, o1, some (.int l2), o3] (r.toList ++ []) G' Q)) : E x F (d + 1) 11 11 [o0, o1, some (.int l2), o3] [] (V, T) Q := by
  refine e_iload_n zd11_11 rfl ?_
  refine e_iconst zd11_12 ?_
  refine e_bipush zd11_13 (v := Int32.ofInt 24) (by decide +kernel) ?_
  exact e_callS zd11_15 (own := 7) (nest := false) (w := 334) (by decide +kernel) (by decide +kernel) zs7 (as := [.int l2, .int (Int32.ofInt 0), .int (Int32.ofInt 24)]) (rest := []) rfl rfl (Nat.le_of_ble_eq_true rfl) rfl rfl rfl (by omega) k
theorem b11_18 {x : zXs} {F : zF} (hF : zSh F) {d : Nat} {V : Nat → Nat → Int32} {T : Nat → Nat → Int64} {Q : Option Value → zG → Prop} {o0 : Option Value} {o1 : Option Value} {o2 : Option Value} {o3 : Option Value} {s0 : Int32}   (kt : s0 = 0 → E x F d 11 34 [o0, o1, o2, o3] [] (V, T) Q) (kf : ¬ (s0 = 0) → E x F d 11 21 [o0, o1, o2, o3] [] (V, T) Q) : E x F d 11 18 [o0, o1, o2, o3] [.int s0] (V, T) Q := by
  exact e_if_eq zd11_18 (tg := 34) rfl kt kf
theorem b11_21 {x : zXs} {F : zF} (hF : zSh F) {d : Nat} {V : Nat → Nat → Int32} {T : Nat → Nat → Int64} {Q : Option Value → zG → Prop} {o0 : Option Value} {o1 : Option Value} {l2 : Int32} {l3 : Int32}   (k : E x F d 7 0 [some (.int l3), some (.int (Int32.ofInt 0)), some (.int (((Int32.ofInt 1) <<< (l2 &&& 31)) - (Int32.ofInt 1)))] [] (V, T) (fun r G' => E x F (d + 1) 11 31 [o0, o1, some (.int l2), some (.int l3)] (r.toList ++ []) G' Q)) : E x F (d + 1) 11 21 [o0, o1, some (.int l2), some (.int l3)] [] (V, T) Q := by
  refine e_iload_n zd11_21 rfl ?_
  refine e_iconst zd11_22 ?_
  refine e_iconst zd11_23 ?_
  refine e_iload_n zd11_24 rfl ?_
  refine e_ishl zd11_25 ?_
  refine e_iconst zd11_26 ?_
  refine e_isub zd11_27 ?_
  exact e_callS zd11_28 (own := 7) (nest := false) (w := 334) (by decide +kernel) (by decide +kernel) zs7 (as := [.int l3, .int (Int32.ofInt 0), .int (((Int32.ofInt 1) <<< (l2 &&& 31)) - (Int32.ofInt 1))]) (rest := []) rfl rfl (Nat.le_of_ble_eq_true rfl) rfl rfl rfl (by omega) k
theorem b11_31 {x : zXs} {F : zF} (hF : zSh F) {d : Nat} {V : Nat → Nat → Int32} {T : Nat → Nat → Int64} {Q : Option Value → zG → Prop} {o0 : Option Value} {o1 : Option Value} {o2 : Option Value} {o3 : Option Value} {s0 : Int32}   (kt : ¬ s0 = 0 → E x F d 11 37 [o0, o1, o2, o3] [] (V, T) Q) (kf : ¬ (¬ s0 = 0) → E x F d 11 34 [o0, o1, o2, o3] [] (V, T) Q) : E x F d 11 31 [o0, o1, o2, o3] [.int s0] (V, T) Q := by
  exact e_if_ne zd11_31 (tg := 37) rfl kt kf
theorem b11_34 {x : zXs} {F : zF} (hF : zSh F) {d : Nat} {V : Nat → Nat → Int32} {T : Nat → Nat → Int64} {Q : Option Value → zG → Prop} {o0 : Option Value} {o1 : Option Value} {o2 : Option Value} {o3 : Option Value}   (k : Q (some (.int (Int32.ofInt (-2)))) (V, T)) : E x F d 11 34 [o0, o1, o2, o3] [] (V, T) Q := by
  refine e_bipush zd11_34 (v := Int32.ofInt (-2)) (by decide +kernel) ?_
  exact e_ireti zd11_36 zs11 k
theorem b11_37 {x : zXs} {F : zF} (hF : zSh F) {d : Nat} {V : Nat → Nat → Int32} {T : Nat → Nat → Int64} {Q : Option Value → zG → Prop} {l1 : Int32} {l2 : Int32} {l3 : Int32}  {i1 : Nat} (e1 : l1 = nI i1) (h1 : i1 < 4) {i2 : Nat} (e2 : l1 = nI i2) (h2 : i2 < 4) (k : E x F d 13 0 [some (.ref 1), some (.int l1)] [] (zu (zu V 2 i1 l2) 3 i2 l3, T) (fun r G' => E x F (d + 1) 11 65 [some (.ref 0), some (.int l1), some (.int l2), some (.int l3)] (r.toList ++ []) G' Q)) : E x F (d + 1) 11 37 [some (.ref 0), some (.int l1), some (.int l2), some (.int l3)] [] (V, T) Q := by
  refine e_aload_n zd11_37 rfl rfl ?_
  refine e_getO zd11_38 (own := 7) (ci := 7) (kf := 0) (w := 297) (by decide +kernel) (by decide +kernel) (zsh_at hF rfl).1 (by decide +kernel) rfl (zrf_at hF (i := 0) rfl) ?_
  refine e_getA zd11_41 (own := 7) (ci := 4) (kf := 0) (w := 111) (by decide +kernel) (by decide +kernel) (zsh_at hF rfl).1 (by decide +kernel) rfl (zrf_at hF (i := 8) rfl) ?_
  refine e_iload_n zd11_44 rfl ?_
  refine e_iload_n zd11_45 rfl ?_
  refine e_iast zd11_46 (i := i1) (zsh_at hF rfl) e1 h1 (by omega) ?_
  refine e_aload_n zd11_47 rfl rfl ?_
  refine e_getO zd11_48 (own := 7) (ci := 7) (kf := 0) (w := 297) (by decide +kernel) (by decide +kernel) (zsh_at hF rfl).1 (by decide +kernel) rfl (zrf_at hF (i := 0) rfl) ?_
  refine e_getA zd11_51 (own := 7) (ci := 4) (kf := 1) (w := 114) (by decide +kernel) (by decide +kernel) (zsh_at hF rfl).1 (by decide +kernel) rfl (zrf_at hF (i := 9) rfl) ?_
  refine e_iload_n zd11_54 rfl ?_
  refine e_iload_n zd11_55 rfl ?_
  refine e_iast zd11_56 (i := i2) (zsh_at hF rfl) e2 h2 (by omega) ?_
  refine e_aload_n zd11_57 rfl rfl ?_
  refine e_getO zd11_58 (own := 7) (ci := 7) (kf := 0) (w := 297) (by decide +kernel) (by decide +kernel) (zsh_at hF rfl).1 (by decide +kernel) rfl (zrf_at hF (i := 0) rfl) ?_
  refine e_iload_n zd11_61 rfl ?_
  exact e_callV zd11_62 (own := 7) (nest := false) (w := 335) (by decide +kernel) (by decide +kernel) zs13 (as := [.int l1]) (rest := []) rfl rfl (zsh_at hF rfl).1 (by omega) (Nat.le_of_ble_eq_true rfl) rfl rfl rfl (by omega) k
theorem b11_65 {x : zXs} {F : zF} (hF : zSh F) {d : Nat} {V : Nat → Nat → Int32} {T : Nat → Nat → Int64} {Q : Option Value → zG → Prop} {o0 : Option Value} {o1 : Option Value} {o2 : Option Value} {o3 : Option Value} {s0 : Int32}   (k : Q (some (.int s0)) (V, T)) : E x F d 11 65 [o0, o1, o2, o3] [.int s0] (V, T) Q := by
  exact e_ireti zd11_65 zs11 k
theorem zd12_0 : zop 12 0 = some (.iload_n 1, 1) := by decide +kernel
theorem zd12_1 : zop 12 1 = some (.iconst 0, 1) := by decide +kernel
theorem zd12_2 : zop 12 2 = some (.iconst 3, 1) := by decide +kernel
theorem zd12_3 : zop 12 3 = some (.invokestatic 43, 3) := by decide +kernel
theorem zd12_6 : zop 12 6 = some (.ireturn, 1) := by decide +kernel
theorem b12_0 {x : zXs} {F : zF} (hF : zSh F) {d : Nat} {V : Nat → Nat → Int32} {T : Nat → Nat → Int64} {Q : Option Value → zG → Prop} {o0 : Option Value} {l1 : Int32}   (k : E x F d 7 0 [some (.int l1), some (.int (Int32.ofInt 0)), some (.int (Int32.ofInt 3))] [] (V, T) (fun r G' => E x F (d + 1) 12 6 [o0, some (.int l1)] (r.toList ++ []) G' Q)) : E x F (d + 1) 12 0 [o0, some (.int l1)] [] (V, T) Q := by
  refine e_iload_n zd12_0 rfl ?_
  refine e_iconst zd12_1 ?_
  refine e_iconst zd12_2 ?_
  exact e_callS zd12_3 (own := 4) (nest := true) (w := 333) (by decide +kernel) (by decide +kernel) zs7 (as := [.int l1, .int (Int32.ofInt 0), .int (Int32.ofInt 3)]) (rest := []) rfl rfl (Nat.le_of_ble_eq_true rfl) rfl rfl rfl (by omega) k
theorem b12_6 {x : zXs} {F : zF} (hF : zSh F) {d : Nat} {V : Nat → Nat → Int32} {T : Nat → Nat → Int64} {Q : Option Value → zG → Prop} {o0 : Option Value} {o1 : Option Value} {s0 : Int32}  (b1 : narrow .boolean (.int s0) = .int s0) (k : Q (some (.int s0)) (V, T)) : E x F d 12 6 [o0, o1] [.int s0] (V, T) Q := by
  exact e_iretz zd12_6 zs12 b1 k
theorem zd13_0 : zop 13 0 = some (.aload_n 0, 1) := by decide +kernel
theorem zd13_1 : zop 13 1 = some (.iload_n 1, 1) := by decide +kernel
theorem zd13_2 : zop 13 2 = some (.invokevirtual 47, 3) := by decide +kernel
theorem zd13_5 : zop 13 5 = some (.invokestatic 51, 3) := by decide +kernel
theorem zd13_8 : zop 13 8 = some (.ireturn, 1) := by decide +kernel
theorem b13_0 {x : zXs} {F : zF} (hF : zSh F) {d : Nat} {V : Nat → Nat → Int32} {T : Nat → Nat → Int64} {Q : Option Value → zG → Prop} {l0 : Nat} {l1 : Int32} (hl0 : zSt l0)  (k : E x F d 14 0 [some (.ref l0), some (.int l1)] [] (V, T) (fun r G' => E x F (d + 1) 13 5 [some (.ref l0), some (.int l1)] (r.toList ++ []) G' Q)) : E x F (d + 1) 13 0 [some (.ref l0), some (.int l1)] [] (V, T) Q := by
  refine e_aload_n zd13_0 rfl rfl ?_
  refine e_iload_n zd13_1 rfl ?_
  exact e_callV zd13_2 (own := 4) (nest := false) (w := 339) (by decide +kernel) (by decide +kernel) zs14 (as := [.int l1]) (rest := []) rfl rfl (zSt_s hF hl0).1 (by omega) (Nat.le_of_ble_eq_true rfl) rfl rfl rfl (by omega) k
theorem b13_5 {x : zXs} {F : zF} (hF : zSh F) {d : Nat} {V : Nat → Nat → Int32} {T : Nat → Nat → Int64} {Q : Option Value → zG → Prop} {o0 : Option Value} {o1 : Option Value} {s0 : Int32}   (k : E x F d 15 0 [some (.int s0)] [] (V, T) (fun r G' => E x F (d + 1) 13 8 [o0, o1] (r.toList ++ []) G' Q)) : E x F (d + 1) 13 5 [o0, o1] [.int s0] (V, T) Q := by
  exact e_callS zd13_5 (own := 4) (nest := false) (w := 343) (by decide +kernel) (by decide +kernel) zs15 (as := [.int s0]) (rest := []) rfl rfl (Nat.le_of_ble_eq_true rfl) rfl rfl rfl (by omega) k
theorem b13_8 {x : zXs} {F : zF} (hF : zSh F) {d : Nat} {V : Nat → Nat → Int32} {T : Nat → Nat → Int64} {Q : Option Value → zG → Prop} {o0 : Option Value} {o1 : Option Value} {s0 : Int32}   (k : Q (some (.int s0)) (V, T)) : E x F d 13 8 [o0, o1] [.int s0] (V, T) Q := by
  exact e_ireti zd13_8 zs13 k
theorem zd14_0 : zop 14 0 = some (.aload_n 0, 1) := by decide +kernel
theorem zd14_1 : zop 14 1 = some (.getfield 15, 3) := by decide +kernel
theorem zd14_4 : zop 14 4 = some (.iload_n 1, 1) := by decide +kernel
theorem zd14_5 : zop 14 5 = some (.iaload, 1) := by decide +kernel
theorem zd14_6 : zop 14 6 = some (.iconst (-1), 1) := by decide +kernel
theorem zd14_7 : zop 14 7 = some (.ixor, 1) := by decide +kernel
theorem zd14_8 : zop 14 8 = some (.iconst 1, 1) := by decide +kernel
theorem zd14_9 : zop 14 9 = some (.aload_n 0, 1) := by decide +kernel
theorem zd14_10 : zop 14 10 = some (.getfield 9, 3) := by decide +kernel
theorem zd14_13 : zop 14 13 = some (.iload_n 1, 1) := by decide +kernel
theorem zd14_14 : zop 14 14 = some (.iaload, 1) := by decide +kernel
theorem zd14_15 : zop 14 15 = some (.ishl, 1) := by decide +kernel
theorem zd14_16 : zop 14 16 = some (.iconst 1, 1) := by decide +kernel
theorem zd14_17 : zop 14 17 = some (.isub, 1) := by decide +kernel
theorem zd14_18 : zop 14 18 = some (.iand, 1) := by decide +kernel
theorem zd14_19 : zop 14 19 = some (.ireturn, 1) := by decide +kernel
theorem b14_0 {x : zXs} {F : zF} (hF : zSh F) {d : Nat} {V : Nat → Nat → Int32} {T : Nat → Nat → Int64} {Q : Option Value → zG → Prop} {l0 : Nat} {l1 : Int32} (hl0 : zSt l0) {i1 : Nat} (e1 : l1 = nI i1) (h1 : i1 < 4) {i2 : Nat} (e2 : l1 = nI i2) (h2 : i2 < 4) (k : Q (some (.int (((V (l0 + 2) i1) ^^^ (Int32.ofInt (-1))) &&& (((Int32.ofInt 1) <<< ((V (l0 + 1) i2) &&& 31)) - (Int32.ofInt 1))))) (V, T)) : E x F d 14 0 [some (.ref l0), some (.int l1)] [] (V, T) Q := by
  refine e_aload_n zd14_0 rfl rfl ?_
  refine e_getA zd14_1 (own := 4) (ci := 4) (kf := 1) (w := 113) (by decide +kernel) (by decide +kernel) (zSt_s hF hl0).1 (by decide +kernel) rfl (zSt_f1 hF hl0) ?_
  refine e_iload_n zd14_4 rfl ?_
  refine e_iald zd14_5 (i := i1) (zSt_a1 hF hl0) e1 h1 (by omega) ?_
  refine e_iconst zd14_6 ?_
  refine e_ixor zd14_7 ?_
  refine e_iconst zd14_8 ?_
  refine e_aload_n zd14_9 rfl rfl ?_
  refine e_getA zd14_10 (own := 4) (ci := 4) (kf := 0) (w := 110) (by decide +kernel) (by decide +kernel) (zSt_s hF hl0).1 (by decide +kernel) rfl (zSt_f0 hF hl0) ?_
  refine e_iload_n zd14_13 rfl ?_
  refine e_iald zd14_14 (i := i2) (zSt_a0 hF hl0) e2 h2 (by omega) ?_
  refine e_ishl zd14_15 ?_
  refine e_iconst zd14_16 ?_
  refine e_isub zd14_17 ?_
  refine e_iand zd14_18 ?_
  exact e_ireti zd14_19 zs14 k
theorem zd15_0 : zop 15 0 = some (.iload_n 0, 1) := by decide +kernel
theorem zd15_1 : zop 15 1 = some (.iload_n 0, 1) := by decide +kernel
theorem zd15_2 : zop 15 2 = some (.iconst 1, 1) := by decide +kernel
theorem zd15_3 : zop 15 3 = some (.iushr, 1) := by decide +kernel
theorem zd15_4 : zop 15 4 = some (.ldc_w 265, 3) := by decide +kernel
theorem zd15_7 : zop 15 7 = some (.iand, 1) := by decide +kernel
theorem zd15_8 : zop 15 8 = some (.isub, 1) := by decide +kernel
theorem zd15_9 : zop 15 9 = some (.istore_n 0, 1) := by decide +kernel
theorem zd15_10 : zop 15 10 = some (.iload_n 0, 1) := by decide +kernel
theorem zd15_11 : zop 15 11 = some (.ldc_w 266, 3) := by decide +kernel
theorem zd15_14 : zop 15 14 = some (.iand, 1) := by decide +kernel
theorem zd15_15 : zop 15 15 = some (.iload_n 0, 1) := by decide +kernel
theorem zd15_16 : zop 15 16 = some (.iconst 2, 1) := by decide +kernel
theorem zd15_17 : zop 15 17 = some (.iushr, 1) := by decide +kernel
theorem zd15_18 : zop 15 18 = some (.ldc_w 266, 3) := by decide +kernel
theorem zd15_21 : zop 15 21 = some (.iand, 1) := by decide +kernel
theorem zd15_22 : zop 15 22 = some (.iadd, 1) := by decide +kernel
theorem zd15_23 : zop 15 23 = some (.istore_n 0, 1) := by decide +kernel
theorem zd15_24 : zop 15 24 = some (.iload_n 0, 1) := by decide +kernel
theorem zd15_25 : zop 15 25 = some (.iload_n 0, 1) := by decide +kernel
theorem zd15_26 : zop 15 26 = some (.iconst 4, 1) := by decide +kernel
theorem zd15_27 : zop 15 27 = some (.iushr, 1) := by decide +kernel
theorem zd15_28 : zop 15 28 = some (.iadd, 1) := by decide +kernel
theorem zd15_29 : zop 15 29 = some (.ldc_w 267, 3) := by decide +kernel
theorem zd15_32 : zop 15 32 = some (.iand, 1) := by decide +kernel
theorem zd15_33 : zop 15 33 = some (.istore_n 0, 1) := by decide +kernel
theorem zd15_34 : zop 15 34 = some (.iload_n 0, 1) := by decide +kernel
theorem zd15_35 : zop 15 35 = some (.iload_n 0, 1) := by decide +kernel
theorem zd15_36 : zop 15 36 = some (.bipush 8, 2) := by decide +kernel
theorem zd15_38 : zop 15 38 = some (.iushr, 1) := by decide +kernel
theorem zd15_39 : zop 15 39 = some (.iadd, 1) := by decide +kernel
theorem zd15_40 : zop 15 40 = some (.istore_n 0, 1) := by decide +kernel
theorem zd15_41 : zop 15 41 = some (.iload_n 0, 1) := by decide +kernel
theorem zd15_42 : zop 15 42 = some (.iload_n 0, 1) := by decide +kernel
theorem zd15_43 : zop 15 43 = some (.bipush 16, 2) := by decide +kernel
theorem zd15_45 : zop 15 45 = some (.iushr, 1) := by decide +kernel
theorem zd15_46 : zop 15 46 = some (.iadd, 1) := by decide +kernel
theorem zd15_47 : zop 15 47 = some (.istore_n 0, 1) := by decide +kernel
theorem zd15_48 : zop 15 48 = some (.iload_n 0, 1) := by decide +kernel
theorem zd15_49 : zop 15 49 = some (.bipush 63, 2) := by decide +kernel
theorem zd15_51 : zop 15 51 = some (.iand, 1) := by decide +kernel
theorem zd15_52 : zop 15 52 = some (.ireturn, 1) := by decide +kernel
theorem b15_0 {x : zXs} {F : zF} (hF : zSh F) {d : Nat} {V : Nat → Nat → Int32} {T : Nat → Nat → Int64} {Q : Option Value → zG → Prop} {l0 : Int32}   (k : Q (some (.int ((((((((l0 - (((l0.toUInt32 >>> ((Int32.ofInt 1).toUInt32 &&& Int32.toUInt32 31)).toInt32) &&& (1431655765 : Int32))) &&& (858993459 : Int32)) + ((((l0 - (((l0.toUInt32 >>> ((Int32.ofInt 1).toUInt32 &&& Int32.toUInt32 31)).toInt32) &&& (1431655765 : Int32))).toUInt32 >>> ((Int32.ofInt 2).toUInt32 &&& Int32.toUInt32 31)).toInt32) &&& (858993459 : Int32))) + (((((l0 - (((l0.toUInt32 >>> ((Int32.ofInt 1).toUInt32 &&& Int32.toUInt32 31)).toInt32) &&& (1431655765 : Int32))) &&& (858993459 : Int32)) + ((((l0 - (((l0.toUInt32 >>> ((Int32.ofInt 1).toUInt32 &&& Int32.toUInt32 31)).toInt32) &&& (1431655765 : Int32))).toUInt32 >>> ((Int32.ofInt 2).toUInt32 &&& Int32.toUInt32 31)).toInt32) &&& (858993459 : Int32))).toUInt32 >>> ((Int32.ofInt 4).toUInt32 &&& Int32.toUInt32 31)).toInt32)) &&& (252645135 : Int32)) + (((((((l0 - (((l0.toUInt32 >>> ((Int32.ofInt 1).toUInt32 &&& Int32.toUInt32 31)).toInt32) &&& (1431655765 : Int32))) &&& (858993459 : Int32)) + ((((l0 - (((l0.toUInt32 >>> ((Int32.ofInt 1).toUInt32 &&& Int32.toUInt32 31)).toInt32) &&& (1431655765 : Int32))).toUInt32 >>> ((Int32.ofInt 2).toUInt32 &&& Int32.toUInt32 31)).toInt32) &&& (858993459 : Int32))) + (((((l0 - (((l0.toUInt32 >>> ((Int32.ofInt 1).toUInt32 &&& Int32.toUInt32 31)).toInt32) &&& (1431655765 : Int32))) &&& (858993459 : Int32)) + ((((l0 - (((l0.toUInt32 >>> ((Int32.ofInt 1).toUInt32 &&& Int32.toUInt32 31)).toInt32) &&& (1431655765 : Int32))).toUInt32 >>> ((Int32.ofInt 2).toUInt32 &&& Int32.toUInt32 31)).toInt32) &&& (858993459 : Int32))).toUInt32 >>> ((Int32.ofInt 4).toUInt32 &&& Int32.toUInt32 31)).toInt32)) &&& (252645135 : Int32)).toUInt32 >>> ((Int32.ofInt 8).toUInt32 &&& Int32.toUInt32 31)).toInt32)) + ((((((((l0 - (((l0.toUInt32 >>> ((Int32.ofInt 1).toUInt32 &&& Int32.toUInt32 31)).toInt32) &&& (1431655765 : Int32))) &&& (858993459 : Int32)) + ((((l0 - (((l0.toUInt32 >>> ((Int32.ofInt 1).toUInt32 &&& Int32.toUInt32 31)).toInt32) &&& (1431655765 : Int32))).toUInt32 >>> ((Int32.ofInt 2).toUInt32 &&& Int32.toUInt32 31)).toInt32) &&& (858993459 : Int32))) + (((((l0 - (((l0.toUInt32 >>> ((Int32.ofInt 1).toUInt32 &&& Int32.toUInt32 31)).toInt32) &&& (1431655765 : Int32))) &&& (858993459 : Int32)) + ((((l0 - (((l0.toUInt32 >>> ((Int32.ofInt 1).toUInt32 &&& Int32.toUInt32 31)).toInt32) &&& (1431655765 : Int32))).toUInt32 >>> ((Int32.ofInt 2).toUInt32 &&& Int32.toUInt32 31)).toInt32) &&& (858993459 : Int32))).toUInt32 >>> ((Int32.ofInt 4).toUInt32 &&& Int32.toUInt32 31)).toInt32)) &&& (252645135 : Int32)) + (((((((l0 - (((l0.toUInt32 >>> ((Int32.ofInt 1).toUInt32 &&& Int32.toUInt32 31)).toInt32) &&& (1431655765 : Int32))) &&& (858993459 : Int32)) + ((((l0 - (((l0.toUInt32 >>> ((Int32.ofInt 1).toUInt32 &&& Int32.toUInt32 31)).toInt32) &&& (1431655765 : Int32))).toUInt32 >>> ((Int32.ofInt 2).toUInt32 &&& Int32.toUInt32 31)).toInt32) &&& (858993459 : Int32))) + (((((l0 - (((l0.toUInt32 >>> ((Int32.ofInt 1).toUInt32 &&& Int32.toUInt32 31)).toInt32) &&& (1431655765 : Int32))) &&& (858993459 : Int32)) + ((((l0 - (((l0.toUInt32 >>> ((Int32.ofInt 1).toUInt32 &&& Int32.toUInt32 31)).toInt32) &&& (1431655765 : Int32))).toUInt32 >>> ((Int32.ofInt 2).toUInt32 &&& Int32.toUInt32 31)).toInt32) &&& (858993459 : Int32))).toUInt32 >>> ((Int32.ofInt 4).toUInt32 &&& Int32.toUInt32 31)).toInt32)) &&& (252645135 : Int32)).toUInt32 >>> ((Int32.ofInt 8).toUInt32 &&& Int32.toUInt32 31)).toInt32)).toUInt32 >>> ((Int32.ofInt 16).toUInt32 &&& Int32.toUInt32 31)).toInt32)) &&& (Int32.ofInt 63)))) (V, T)) : E x F d 15 0 [some (.int l0)] [] (V, T) Q := by
  refine e_iload_n zd15_0 rfl ?_
  refine e_iload_n zd15_1 rfl ?_
  refine e_iconst zd15_2 ?_
  refine e_iushr zd15_3 ?_
  refine e_ldcw zd15_4 (own := 9) (w := 346) (v := 1431655765) (by decide +kernel) (by decide +kernel) ?_
  refine e_iand zd15_7 ?_
  refine e_isub zd15_8 ?_
  refine e_istore_n zd15_9 (by decide +kernel) (Nat.le_of_ble_eq_true rfl) ?_
  refine e_iload_n zd15_10 rfl ?_
  refine e_ldcw zd15_11 (own := 9) (w := 347) (v := 858993459) (by decide +kernel) (by decide +kernel) ?_
  refine e_iand zd15_14 ?_
  refine e_iload_n zd15_15 rfl ?_
  refine e_iconst zd15_16 ?_
  refine e_iushr zd15_17 ?_
  refine e_ldcw zd15_18 (own := 9) (w := 347) (v := 858993459) (by decide +kernel) (by decide +kernel) ?_
  refine e_iand zd15_21 ?_
  refine e_iadd zd15_22 ?_
  refine e_istore_n zd15_23 (by decide +kernel) (Nat.le_of_ble_eq_true rfl) ?_
  refine e_iload_n zd15_24 rfl ?_
  refine e_iload_n zd15_25 rfl ?_
  refine e_iconst zd15_26 ?_
  refine e_iushr zd15_27 ?_
  refine e_iadd zd15_28 ?_
  refine e_ldcw zd15_29 (own := 9) (w := 348) (v := 252645135) (by decide +kernel) (by decide +kernel) ?_
  refine e_iand zd15_32 ?_
  refine e_istore_n zd15_33 (by decide +kernel) (Nat.le_of_ble_eq_true rfl) ?_
  refine e_iload_n zd15_34 rfl ?_
  refine e_iload_n zd15_35 rfl ?_
  refine e_bipush zd15_36 (v := Int32.ofInt 8) (by decide +kernel) ?_
  refine e_iushr zd15_38 ?_
  refine e_iadd zd15_39 ?_
  refine e_istore_n zd15_40 (by decide +kernel) (Nat.le_of_ble_eq_true rfl) ?_
  refine e_iload_n zd15_41 rfl ?_
  refine e_iload_n zd15_42 rfl ?_
  refine e_bipush zd15_43 (v := Int32.ofInt 16) (by decide +kernel) ?_
  refine e_iushr zd15_45 ?_
  refine e_iadd zd15_46 ?_
  refine e_istore_n zd15_47 (by decide +kernel) (Nat.le_of_ble_eq_true rfl) ?_
  refine e_iload_n zd15_48 rfl ?_
  refine e_bipush zd15_49 (v := Int32.ofInt 63) (by decide +kernel) ?_
  refine e_iand zd15_51 ?_
  exact e_ireti zd15_52 zs15 k
theorem zd16_0 : zop 16 0 = some (.iload_n 1, 1) := by decide +kernel
theorem zd16_1 : zop 16 1 = some (.tableswitch 108 0 2 #[27, 49, 78], 27) := by decide +kernel
theorem zd16_28 : zop 16 28 = some (.iload_n 3, 1) := by decide +kernel
theorem zd16_29 : zop 16 29 = some (.iconst 0, 1) := by decide +kernel
theorem zd16_30 : zop 16 30 = some (.sipush 999, 3) := by decide +kernel
theorem zd16_33 : zop 16 33 = some (.invokestatic 59, 3) := by decide +kernel
theorem zd16_36 : zop 16 36 = some (.ifCond .eq 11, 3) := by decide +kernel
theorem zd16_39 : zop 16 39 = some (.aload_n 0, 1) := by decide +kernel
theorem zd16_40 : zop 16 40 = some (.iload_n 3, 1) := by decide +kernel
theorem zd16_41 : zop 16 41 = some (.invokevirtual 74, 3) := by decide +kernel
theorem zd16_44 : zop 16 44 = some (.goto 5, 3) := by decide +kernel
theorem zd16_47 : zop 16 47 = some (.bipush (-2), 2) := by decide +kernel
theorem zd16_49 : zop 16 49 = some (.ireturn, 1) := by decide +kernel
theorem zd16_50 : zop 16 50 = some (.iload_n 3, 1) := by decide +kernel
theorem zd16_51 : zop 16 51 = some (.iconst 0, 1) := by decide +kernel
theorem zd16_52 : zop 16 52 = some (.bipush 9, 2) := by decide +kernel
theorem zd16_54 : zop 16 54 = some (.invokestatic 59, 3) := by decide +kernel
theorem zd16_57 : zop 16 57 = some (.ifCond .eq 19, 3) := by decide +kernel
theorem zd16_60 : zop 16 60 = some (.aload_n 0, 1) := by decide +kernel
theorem zd16_61 : zop 16 61 = some (.aload_n 0, 1) := by decide +kernel
theorem zd16_62 : zop 16 62 = some (.getfield 10, 3) := by decide +kernel
theorem zd16_65 : zop 16 65 = some (.getfield 77, 3) := by decide +kernel
theorem zd16_68 : zop 16 68 = some (.iload_n 2, 1) := by decide +kernel
theorem zd16_69 : zop 16 69 = some (.iload_n 3, 1) := by decide +kernel
theorem zd16_70 : zop 16 70 = some (.invokevirtual 80, 3) := by decide +kernel
theorem zd16_73 : zop 16 73 = some (.goto 5, 3) := by decide +kernel
theorem zd16_76 : zop 16 76 = some (.bipush (-2), 2) := by decide +kernel
theorem zd16_78 : zop 16 78 = some (.ireturn, 1) := by decide +kernel
theorem zd16_79 : zop 16 79 = some (.iload_n 3, 1) := by decide +kernel
theorem zd16_80 : zop 16 80 = some (.iconst 0, 1) := by decide +kernel
theorem zd16_81 : zop 16 81 = some (.sipush 999, 3) := by decide +kernel
theorem zd16_84 : zop 16 84 = some (.invokestatic 59, 3) := by decide +kernel
theorem zd16_87 : zop 16 87 = some (.ifCond .eq 19, 3) := by decide +kernel
theorem zd16_90 : zop 16 90 = some (.aload_n 0, 1) := by decide +kernel
theorem zd16_91 : zop 16 91 = some (.aload_n 0, 1) := by decide +kernel
theorem zd16_92 : zop 16 92 = some (.getfield 10, 3) := by decide +kernel
theorem zd16_95 : zop 16 95 = some (.getfield 84, 3) := by decide +kernel
theorem zd16_98 : zop 16 98 = some (.iload_n 2, 1) := by decide +kernel
theorem zd16_99 : zop 16 99 = some (.iload_n 3, 1) := by decide +kernel
theorem zd16_100 : zop 16 100 = some (.invokevirtual 80, 3) := by decide +kernel
theorem zd16_103 : zop 16 103 = some (.goto 5, 3) := by decide +kernel
theorem zd16_106 : zop 16 106 = some (.bipush (-2), 2) := by decide +kernel
theorem zd16_108 : zop 16 108 = some (.ireturn, 1) := by decide +kernel
theorem zd16_109 : zop 16 109 = some (.bipush (-2), 2) := by decide +kernel
theorem zd16_111 : zop 16 111 = some (.ireturn, 1) := by decide +kernel
theorem b16_0 {x : zXs} {F : zF} (hF : zSh F) {d : Nat} {V : Nat → Nat → Int32} {T : Nat → Nat → Int64} {Q : Option Value → zG → Prop} {o0 : Option Value} {l1 : Int32} {o2 : Option Value} {o3 : Option Value}   (k0 : l1 = Int32.ofInt 0 → E x F d 16 28 [o0, some (.int l1), o2, o3] [] (V, T) Q) (k1 : l1 = Int32.ofInt 1 → E x F d 16 50 [o0, some (.int l1), o2, o3] [] (V, T) Q) (k2 : l1 = Int32.ofInt 2 → E x F d 16 79 [o0, some (.int l1), o2, o3] [] (V, T) Q) (kd : ¬ l1 = Int32.ofInt 0 ∧ ¬ l1 = Int32.ofInt 1 ∧ ¬ l1 = Int32.ofInt 2 → E x F d 16 109 [o0, some (.int l1), o2, o3] [] (V, T) Q) : E x F d 16 0 [o0, some (.int l1), o2, o3] [] (V, T) Q := by
  refine e_iload_n zd16_0 rfl ?_
  by_cases c0 : l1 = Int32.ofInt 0
  · exact e_tableIn zd16_1 (off := 27) (by rw [c0]; decide +kernel) (by rw [c0]; decide +kernel) (tg := 28) rfl (k0 c0)
  by_cases c1 : l1 = Int32.ofInt 1
  · exact e_tableIn zd16_1 (off := 49) (by rw [c1]; decide +kernel) (by rw [c1]; decide +kernel) (tg := 50) rfl (k1 c1)
  by_cases c2 : l1 = Int32.ofInt 2
  · exact e_tableIn zd16_1 (off := 78) (by rw [c2]; decide +kernel) (by rw [c2]; decide +kernel) (tg := 79) rfl (k2 c2)
  exact e_tableOut zd16_1 (zsw_out (lo := 0) (hi := 2) (by decide) (by decide) (fun v h1 h2 h => by
    rcases (show v = 0 ∨ v = 1 ∨ v = 2 by omega) with rfl | rfl | rfl
    · exact c0 h
    · exact c1 h
    · exact c2 h)) (tg := 109) rfl (kd ⟨c0, c1, c2⟩)
theorem b16_28 {x : zXs} {F : zF} (hF : zSh F) {d : Nat} {V : Nat → Nat → Int32} {T : Nat → Nat → Int64} {Q : Option Value → zG → Prop} {o0 : Option Value} {o1 : Option Value} {o2 : Option Value} {l3 : Int32}   (k : E x F d 7 0 [some (.int l3), some (.int (Int32.ofInt 0)), some (.int (Int32.ofInt 999))] [] (V, T) (fun r G' => E x F (d + 1) 16 36 [o0, o1, o2, some (.int l3)] (r.toList ++ []) G' Q)) : E x F (d + 1) 16 28 [o0, o1, o2, some (.int l3)] [] (V, T) Q := by
  refine e_iload_n zd16_28 rfl ?_
  refine e_iconst zd16_29 ?_
  refine e_sipush zd16_30 (v := Int32.ofInt 999) (by decide +kernel) ?_
  exact e_callS zd16_33 (own := 7) (nest := false) (w := 334) (by decide +kernel) (by decide +kernel) zs7 (as := [.int l3, .int (Int32.ofInt 0), .int (Int32.ofInt 999)]) (rest := []) rfl rfl (Nat.le_of_ble_eq_true rfl) rfl rfl rfl (by omega) k
theorem b16_36 {x : zXs} {F : zF} (hF : zSh F) {d : Nat} {V : Nat → Nat → Int32} {T : Nat → Nat → Int64} {Q : Option Value → zG → Prop} {o0 : Option Value} {o1 : Option Value} {o2 : Option Value} {o3 : Option Value} {s0 : Int32}   (kt : s0 = 0 → E x F d 16 47 [o0, o1, o2, o3] [] (V, T) Q) (kf : ¬ (s0 = 0) → E x F d 16 39 [o0, o1, o2, o3] [] (V, T) Q) : E x F d 16 36 [o0, o1, o2, o3] [.int s0] (V, T) Q := by
  exact e_if_eq zd16_36 (tg := 47) rfl kt kf
theorem b16_39 {x : zXs} {F : zF} (hF : zSh F) {d : Nat} {V : Nat → Nat → Int32} {T : Nat → Nat → Int64} {Q : Option Value → zG → Prop} {o1 : Option Value} {o2 : Option Value} {l3 : Int32}   (k : E x F d 17 0 [some (.ref 0), some (.int l3), none] [] (V, T) (fun r G' => E x F (d + 1) 16 44 [some (.ref 0), o1, o2, some (.int l3)] (r.toList ++ []) G' Q)) : E x F (d + 1) 16 39 [some (.ref 0), o1, o2, some (.int l3)] [] (V, T) Q := by
  refine e_aload_n zd16_39 rfl rfl ?_
  refine e_iload_n zd16_40 rfl ?_
  exact e_callV zd16_41 (own := 7) (nest := false) (w := 353) (by decide +kernel) (by decide +kernel) zs17 (as := [.int l3]) (rest := []) rfl rfl (zsh_at hF rfl).1 (by omega) (Nat.le_of_ble_eq_true rfl) rfl rfl rfl (by omega) k
theorem b16_44 {x : zXs} {F : zF} (hF : zSh F) {d : Nat} {V : Nat → Nat → Int32} {T : Nat → Nat → Int64} {Q : Option Value → zG → Prop} {o0 : Option Value} {o1 : Option Value} {o2 : Option Value} {o3 : Option Value} {s0 : Int32}   (k : E x F d 16 49 [o0, o1, o2, o3] [.int s0] (V, T) Q) : E x F d 16 44 [o0, o1, o2, o3] [.int s0] (V, T) Q := by
  exact e_goto zd16_44 (tg := 49) rfl k
theorem b16_47 {x : zXs} {F : zF} (hF : zSh F) {d : Nat} {V : Nat → Nat → Int32} {T : Nat → Nat → Int64} {Q : Option Value → zG → Prop} {o0 : Option Value} {o1 : Option Value} {o2 : Option Value} {o3 : Option Value}   (k : E x F d 16 49 [o0, o1, o2, o3] [.int (Int32.ofInt (-2))] (V, T) Q) : E x F d 16 47 [o0, o1, o2, o3] [] (V, T) Q := by
  refine e_bipush zd16_47 (v := Int32.ofInt (-2)) (by decide +kernel) ?_
  exact k
theorem b16_49 {x : zXs} {F : zF} (hF : zSh F) {d : Nat} {V : Nat → Nat → Int32} {T : Nat → Nat → Int64} {Q : Option Value → zG → Prop} {o0 : Option Value} {o1 : Option Value} {o2 : Option Value} {o3 : Option Value} {s0 : Int32}   (k : Q (some (.int s0)) (V, T)) : E x F d 16 49 [o0, o1, o2, o3] [.int s0] (V, T) Q := by
  exact e_ireti zd16_49 zs16 k
theorem b16_50 {x : zXs} {F : zF} (hF : zSh F) {d : Nat} {V : Nat → Nat → Int32} {T : Nat → Nat → Int64} {Q : Option Value → zG → Prop} {o0 : Option Value} {o1 : Option Value} {o2 : Option Value} {l3 : Int32}   (k : E x F d 7 0 [some (.int l3), some (.int (Int32.ofInt 0)), some (.int (Int32.ofInt 9))] [] (V, T) (fun r G' => E x F (d + 1) 16 57 [o0, o1, o2, some (.int l3)] (r.toList ++ []) G' Q)) : E x F (d + 1) 16 50 [o0, o1, o2, some (.int l3)] [] (V, T) Q := by
  refine e_iload_n zd16_50 rfl ?_
  refine e_iconst zd16_51 ?_
  refine e_bipush zd16_52 (v := Int32.ofInt 9) (by decide +kernel) ?_
  exact e_callS zd16_54 (own := 7) (nest := false) (w := 334) (by decide +kernel) (by decide +kernel) zs7 (as := [.int l3, .int (Int32.ofInt 0), .int (Int32.ofInt 9)]) (rest := []) rfl rfl (Nat.le_of_ble_eq_true rfl) rfl rfl rfl (by omega) k
theorem b16_57 {x : zXs} {F : zF} (hF : zSh F) {d : Nat} {V : Nat → Nat → Int32} {T : Nat → Nat → Int64} {Q : Option Value → zG → Prop} {o0 : Option Value} {o1 : Option Value} {o2 : Option Value} {o3 : Option Value} {s0 : Int32}   (kt : s0 = 0 → E x F d 16 76 [o0, o1, o2, o3] [] (V, T) Q) (kf : ¬ (s0 = 0) → E x F d 16 60 [o0, o1, o2, o3] [] (V, T) Q) : E x F d 16 57 [o0, o1, o2, o3] [.int s0] (V, T) Q := by
  exact e_if_eq zd16_57 (tg := 76) rfl kt kf
theorem b16_60 {x : zXs} {F : zF} (hF : zSh F) {d : Nat} {V : Nat → Nat → Int32} {T : Nat → Nat → Int64} {Q : Option Value → zG → Prop} {o1 : Option Value} {l2 : Int32} {l3 : Int32}   (k : E x F d 18 0 [some (.ref 0), some (.ref 5), some (.int l2), some (.int l3), none] [] (V, T) (fun r G' => E x F (d + 1) 16 73 [some (.ref 0), o1, some (.int l2), some (.int l3)] (r.toList ++ []) G' Q)) : E x F (d + 1) 16 60 [some (.ref 0), o1, some (.int l2), some (.int l3)] [] (V, T) Q := by
  refine e_aload_n zd16_60 rfl rfl ?_
  refine e_aload_n zd16_61 rfl rfl ?_
  refine e_getO zd16_62 (own := 7) (ci := 7) (kf := 0) (w := 297) (by decide +kernel) (by decide +kernel) (zsh_at hF rfl).1 (by decide +kernel) rfl (zrf_at hF (i := 0) rfl) ?_
  refine e_getA zd16_65 (own := 7) (ci := 4) (kf := 3) (w := 121) (by decide +kernel) (by decide +kernel) (zsh_at hF rfl).1 (by decide +kernel) rfl (zrf_at hF (i := 11) rfl) ?_
  refine e_iload_n zd16_68 rfl ?_
  refine e_iload_n zd16_69 rfl ?_
  exact e_callV zd16_70 (own := 7) (nest := false) (w := 357) (by decide +kernel) (by decide +kernel) zs18 (as := [.ref 5, .int l2, .int l3]) (rest := []) rfl rfl (zsh_at hF rfl).1 (by omega) (Nat.le_of_ble_eq_true rfl) rfl rfl rfl (by omega) k
theorem b16_73 {x : zXs} {F : zF} (hF : zSh F) {d : Nat} {V : Nat → Nat → Int32} {T : Nat → Nat → Int64} {Q : Option Value → zG → Prop} {o0 : Option Value} {o1 : Option Value} {o2 : Option Value} {o3 : Option Value} {s0 : Int32}   (k : E x F d 16 78 [o0, o1, o2, o3] [.int s0] (V, T) Q) : E x F d 16 73 [o0, o1, o2, o3] [.int s0] (V, T) Q := by
  exact e_goto zd16_73 (tg := 78) rfl k
theorem b16_76 {x : zXs} {F : zF} (hF : zSh F) {d : Nat} {V : Nat → Nat → Int32} {T : Nat → Nat → Int64} {Q : Option Value → zG → Prop} {o0 : Option Value} {o1 : Option Value} {o2 : Option Value} {o3 : Option Value}   (k : E x F d 16 78 [o0, o1, o2, o3] [.int (Int32.ofInt (-2))] (V, T) Q) : E x F d 16 76 [o0, o1, o2, o3] [] (V, T) Q := by
  refine e_bipush zd16_76 (v := Int32.ofInt (-2)) (by decide +kernel) ?_
  exact k
theorem b16_78 {x : zXs} {F : zF} (hF : zSh F) {d : Nat} {V : Nat → Nat → Int32} {T : Nat → Nat → Int64} {Q : Option Value → zG → Prop} {o0 : Option Value} {o1 : Option Value} {o2 : Option Value} {o3 : Option Value} {s0 : Int32}   (k : Q (some (.int s0)) (V, T)) : E x F d 16 78 [o0, o1, o2, o3] [.int s0] (V, T) Q := by
  exact e_ireti zd16_78 zs16 k
theorem b16_79 {x : zXs} {F : zF} (hF : zSh F) {d : Nat} {V : Nat → Nat → Int32} {T : Nat → Nat → Int64} {Q : Option Value → zG → Prop} {o0 : Option Value} {o1 : Option Value} {o2 : Option Value} {l3 : Int32}   (k : E x F d 7 0 [some (.int l3), some (.int (Int32.ofInt 0)), some (.int (Int32.ofInt 999))] [] (V, T) (fun r G' => E x F (d + 1) 16 87 [o0, o1, o2, some (.int l3)] (r.toList ++ []) G' Q)) : E x F (d + 1) 16 79 [o0, o1, o2, some (.int l3)] [] (V, T) Q := by
  refine e_iload_n zd16_79 rfl ?_
  refine e_iconst zd16_80 ?_
  refine e_sipush zd16_81 (v := Int32.ofInt 999) (by decide +kernel) ?_
  exact e_callS zd16_84 (own := 7) (nest := false) (w := 334) (by decide +kernel) (by decide +kernel) zs7 (as := [.int l3, .int (Int32.ofInt 0), .int (Int32.ofInt 999)]) (rest := []) rfl rfl (Nat.le_of_ble_eq_true rfl) rfl rfl rfl (by omega) k
theorem b16_87 {x : zXs} {F : zF} (hF : zSh F) {d : Nat} {V : Nat → Nat → Int32} {T : Nat → Nat → Int64} {Q : Option Value → zG → Prop} {o0 : Option Value} {o1 : Option Value} {o2 : Option Value} {o3 : Option Value} {s0 : Int32}   (kt : s0 = 0 → E x F d 16 106 [o0, o1, o2, o3] [] (V, T) Q) (kf : ¬ (s0 = 0) → E x F d 16 90 [o0, o1, o2, o3] [] (V, T) Q) : E x F d 16 87 [o0, o1, o2, o3] [.int s0] (V, T) Q := by
  exact e_if_eq zd16_87 (tg := 106) rfl kt kf
theorem b16_90 {x : zXs} {F : zF} (hF : zSh F) {d : Nat} {V : Nat → Nat → Int32} {T : Nat → Nat → Int64} {Q : Option Value → zG → Prop} {o1 : Option Value} {l2 : Int32} {l3 : Int32}   (k : E x F d 18 0 [some (.ref 0), some (.ref 6), some (.int l2), some (.int l3), none] [] (V, T) (fun r G' => E x F (d + 1) 16 103 [some (.ref 0), o1, some (.int l2), some (.int l3)] (r.toList ++ []) G' Q)) : E x F (d + 1) 16 90 [some (.ref 0), o1, some (.int l2), some (.int l3)] [] (V, T) Q := by
  refine e_aload_n zd16_90 rfl rfl ?_
  refine e_aload_n zd16_91 rfl rfl ?_
  refine e_getO zd16_92 (own := 7) (ci := 7) (kf := 0) (w := 297) (by decide +kernel) (by decide +kernel) (zsh_at hF rfl).1 (by decide +kernel) rfl (zrf_at hF (i := 0) rfl) ?_
  refine e_getA zd16_95 (own := 7) (ci := 4) (kf := 4) (w := 125) (by decide +kernel) (by decide +kernel) (zsh_at hF rfl).1 (by decide +kernel) rfl (zrf_at hF (i := 12) rfl) ?_
  refine e_iload_n zd16_98 rfl ?_
  refine e_iload_n zd16_99 rfl ?_
  exact e_callV zd16_100 (own := 7) (nest := false) (w := 357) (by decide +kernel) (by decide +kernel) zs18 (as := [.ref 6, .int l2, .int l3]) (rest := []) rfl rfl (zsh_at hF rfl).1 (by omega) (Nat.le_of_ble_eq_true rfl) rfl rfl rfl (by omega) k
theorem b16_103 {x : zXs} {F : zF} (hF : zSh F) {d : Nat} {V : Nat → Nat → Int32} {T : Nat → Nat → Int64} {Q : Option Value → zG → Prop} {o0 : Option Value} {o1 : Option Value} {o2 : Option Value} {o3 : Option Value} {s0 : Int32}   (k : E x F d 16 108 [o0, o1, o2, o3] [.int s0] (V, T) Q) : E x F d 16 103 [o0, o1, o2, o3] [.int s0] (V, T) Q := by
  exact e_goto zd16_103 (tg := 108) rfl k
theorem b16_106 {x : zXs} {F : zF} (hF : zSh F) {d : Nat} {V : Nat → Nat → Int32} {T : Nat → Nat → Int64} {Q : Option Value → zG → Prop} {o0 : Option Value} {o1 : Option Value} {o2 : Option Value} {o3 : Option Value}   (k : E x F d 16 108 [o0, o1, o2, o3] [.int (Int32.ofInt (-2))] (V, T) Q) : E x F d 16 106 [o0, o1, o2, o3] [] (V, T) Q := by
  refine e_bipush zd16_106 (v := Int32.ofInt (-2)) (by decide +kernel) ?_
  exact k
theorem b16_108 {x : zXs} {F : zF} (hF : zSh F) {d : Nat} {V : Nat → Nat → Int32} {T : Nat → Nat → Int64} {Q : Option Value → zG → Prop} {o0 : Option Value} {o1 : Option Value} {o2 : Option Value} {o3 : Option Value} {s0 : Int32}   (k : Q (some (.int s0)) (V, T)) : E x F d 16 108 [o0, o1, o2, o3] [.int s0] (V, T) Q := by
  exact e_ireti zd16_108 zs16 k
theorem b16_109 {x : zXs} {F : zF} (hF : zSh F) {d : Nat} {V : Nat → Nat → Int32} {T : Nat → Nat → Int64} {Q : Option Value → zG → Prop} {o0 : Option Value} {o1 : Option Value} {o2 : Option Value} {o3 : Option Value}   (k : Q (some (.int (Int32.ofInt (-2)))) (V, T)) : E x F d 16 109 [o0, o1, o2, o3] [] (V, T) Q := by
  refine e_bipush zd16_109 (v := Int32.ofInt (-2)) (by decide +kernel) ?_
  exact e_ireti zd16_111 zs16 k
theorem zd17_0 : zop 17 0 = some (.aload_n 0, 1) := by decide +kernel
theorem zd17_1 : zop 17 1 = some (.getfield 10, 3) := by decide +kernel
theorem zd17_4 : zop 17 4 = some (.getfield 87, 3) := by decide +kernel
theorem zd17_7 : zop 17 7 = some (.istore_n 2, 1) := by decide +kernel
theorem zd17_8 : zop 17 8 = some (.aload_n 0, 1) := by decide +kernel
theorem zd17_9 : zop 17 9 = some (.getfield 10, 3) := by decide +kernel
theorem zd17_12 : zop 17 12 = some (.iload_n 1, 1) := by decide +kernel
theorem zd17_13 : zop 17 13 = some (.putfield 87, 3) := by decide +kernel
theorem zd17_16 : zop 17 16 = some (.iload_n 2, 1) := by decide +kernel
theorem zd17_17 : zop 17 17 = some (.ireturn, 1) := by decide +kernel
theorem b17_0 {x : zXs} {F : zF} (hF : zSh F) {d : Nat} {V : Nat → Nat → Int32} {T : Nat → Nat → Int64} {Q : Option Value → zG → Prop} {l1 : Int32} {o2 : Option Value}   (k : Q (some (.int (V 1 6))) (zu V 1 6 l1, T)) : E x F d 17 0 [some (.ref 0), some (.int l1), o2] [] (V, T) Q := by
  refine e_aload_n zd17_0 rfl rfl ?_
  refine e_getO zd17_1 (own := 7) (ci := 7) (kf := 0) (w := 297) (by decide +kernel) (by decide +kernel) (zsh_at hF rfl).1 (by decide +kernel) rfl (zrf_at hF (i := 0) rfl) ?_
  refine e_getI zd17_4 (own := 7) (ci := 4) (kf := 6) (w := 131) (by decide +kernel) (by decide +kernel) (zsh_at hF rfl).1 (by decide +kernel) rfl ?_
  refine e_istore_n zd17_7 (by decide +kernel) (Nat.le_of_ble_eq_true rfl) ?_
  refine e_aload_n zd17_8 rfl rfl ?_
  refine e_getO zd17_9 (own := 7) (ci := 7) (kf := 0) (w := 297) (by decide +kernel) (by decide +kernel) (zsh_at hF rfl).1 (by decide +kernel) rfl (zrf_at hF (i := 0) rfl) ?_
  refine e_iload_n zd17_12 rfl ?_
  refine e_putI zd17_13 (own := 7) (ci := 4) (kf := 6) (w := 131) (by decide +kernel) (by decide +kernel) (zsh_at hF rfl).1 (by decide +kernel) rfl ?_
  refine e_iload_n zd17_16 rfl ?_
  exact e_ireti zd17_17 zs17 k
